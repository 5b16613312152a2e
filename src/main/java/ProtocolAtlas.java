import java.util.Arrays;

/** Goes through all worlds that the table of a protocol can bring about. ../shared/DOC.md has the terms. */
public final class ProtocolAtlas {

    /** There is none; it is refused. */
    public static final int NONE = -1;

    private static final int TAPE_MOST = 1600;
    private static final int FED_AT_ONCE = 20;
    private static final int STATEMENTS_MOST = 60;
    private static final int AGENTS_MOST = 4;
    private static final int NAMES_MOST = 6;
    private static final int LETTERS_MOST = 6;
    private static final int RULES_MOST = 16;
    private static final int NEVERS_MOST = 4;
    private static final int COUNTS_MOST = 3;
    private static final int WORLDS_MOST = 600;
    private static final int NODES_MOST = WORLDS_MOST * AGENTS_MOST;
    private static final int MOVES_MOST = NODES_MOST * RULES_MOST;
    private static final int ACTS_MOST = 20;
    private static final int CHANCES_MOST = 100;
    private static final int SEEN_MOST = 6;
    private static final int SINCE_MOST = 6;
    private static final int FIGURES = 5;

    private static final int STATES = 0;
    private static final int HOMES = 1;
    private static final int MESSAGES = 2;
    private static final int KINDS = 3;

    private static final int UNEXPECTED = 1;
    private static final int WRONG_NUMBER = 2;
    private static final int WRONG_NAME = 3;
    private static final int TOO_MANY = 5;
    private static final int TOO_LARGE = 6;

    /** A message or nothing is one of 7, so an agent is a number of the base 7 and worlds compare as numbers. */
    private static final int HELD = 7;
    private static final int STATE_CODES = HELD * HELD * HELD;
    private static final int CODES = NAMES_MOST * STATE_CODES;

    private static final int NOTHING_BYTE = 255;
    private static final int CHECK_START = 193;
    private static final int CHECK_MODULUS = 251;

    private static final String OWN_WORDS =
            "agents states home messages order kept loose never and wants on with to sends at replies tells none some ";

    private final Bytes tape = new Bytes();
    private final Bytes written = new Bytes();
    private final Bytes trial = new Bytes();
    private final Search search = new Search();
    private final Atlas atlas = new Atlas();
    private final Sight sight = new Sight();
    private final World walk = new World();
    private final World ahead = new World();
    private final long[] trail = new long[ACTS_MOST];
    private final int[] refused = new int[6];
    private final Reader reader = new Reader();
    private Table table = new Table();
    private final Study study = new Study(atlas, table);
    private boolean ready = false;
    private int acts = 0;
    private long drawn = 1;

    public ProtocolAtlas() {
    }

    public int feed(int a, int b, int c, int d, int e) {
        if (tape.size() + FED_AT_ONCE > TAPE_MOST) {
            return refuse(0);
        }
        tape.addNumber(a);
        tape.addNumber(b);
        tape.addNumber(c);
        tape.addNumber(d);
        tape.addNumber(e);
        return tape.size();
    }

    public boolean end(int n) {
        if (n < 0 || n > tape.size()) {
            refuse(0);
            return false;
        }
        tape.cut(n);
        return true;
    }

    public int table() {
        int statements = reader.read(tape);
        if (statements != NONE && !search.explore(reader.draft)) {
            reader.refuse(TOO_LARGE, tape.size());
            statements = NONE;
        }
        tape.cut(0);
        if (statements == NONE) {
            return refuse(1);
        }
        Table old = table;
        table = reader.draft;
        reader.draft = old;
        ready = true;
        atlas.fill(search, table);
        study.begin(table);
        sight.forget();
        walk.begin(table);
        acts = 0;
        return statements;
    }

    public int fault(int what) {
        if (what == 0) {
            return reader.fault;
        }
        return what == 1 ? reader.place : NONE;
    }

    public int has(int what) {
        if (what < 0 || what > 13) {
            return NONE;
        }
        if (!ready) {
            return 0;
        }
        switch (what) {
            case 0: return table.agents;
            case 1: return table.count[STATES];
            case 2: return table.count[HOMES];
            case 3: return table.count[MESSAGES];
            case 4: return table.rows;
            case 5: return atlas.worlds;
            case 6: return atlas.allWorlds();
            case 7: return atlas.depth[atlas.worlds - 1];
            case 8: return atlas.allMoves(NONE);
            case 9: return atlas.allBad();
            case 10: return atlas.allStuck();
            case 11: return study.parts;
            case 12: return acts;
            default: return sight.rows;
        }
    }

    public int letter(int kind, int which, int k) {
        if (!ready || kind < 0 || kind >= KINDS || k < 0 || k >= LETTERS_MOST) {
            return NONE;
        }
        if (which < 0 || which >= table.count[kind]) {
            return NONE;
        }
        return letterOf(table.name(kind, which), k);
    }

    public int rule(int rule, int what) {
        return isRule(rule) ? table.row[rule].told(what) : NONE;
    }

    public int world(int world, int what) {
        if (!isWorld(world)) {
            return NONE;
        }
        switch (what) {
            case 0: return atlas.depth[world];
            case 1: return atlas.times[world];
            case 2: return atlas.home(world);
            case 3: return asNumber(atlas.bad[world]);
            case 4: return asNumber(atlas.movesFrom(world) == 0);
            case 5: return atlas.movesFrom(world);
            case 6: return study.partOf[world];
            default: return NONE;
        }
    }

    public int agent(int world, int agent, int what) {
        if (!isWorld(world) || !isAgent(agent)) {
            return NONE;
        }
        int node = world * AGENTS_MOST + agent;
        switch (what) {
            case 4: return asNumber(study.starves[node]);
            case 5: return asNumber(study.leftOut[node]);
            default: return held(atlas.code[node], what);
        }
    }

    public int leads(int world, int rule, int agent) {
        if (!isWorld(world) || !isRule(rule) || !isAgent(agent)) {
            return NONE;
        }
        return atlas.leading(world, rule, agent);
    }

    public int way(int world, int k, int what) {
        if (!isWorld(world)) {
            return NONE;
        }
        int length = atlas.depth[world];
        if (k == NONE) {
            return what == 0 ? length : NONE;
        }
        if (k < 0 || k >= length) {
            return NONE;
        }
        int step = atlas.stepTo(world, length - 1 - k);
        if (what == 0) {
            return step / AGENTS_MOST;
        }
        return what == 1 ? step % AGENTS_MOST : NONE;
    }

    public int first(int what) {
        if (!ready) {
            return NONE;
        }
        switch (what) {
            case 0: return atlas.firstBad();
            case 1: return atlas.firstStuck();
            case 2: return study.firstWith(study.starves);
            case 3: return study.firstWith(study.leftOut);
            default: return NONE;
        }
    }

    public int part(int part, int what) {
        if (!ready || part < 0 || part >= study.parts) {
            return NONE;
        }
        switch (what) {
            case 0: return study.partSize[part];
            case 1: return study.partFirst[part];
            case 2: return asNumber(study.partEnds[part]);
            default: return NONE;
        }
    }

    public int returns() {
        return ready ? study.worldsOfPart(0) : NONE;
    }

    public int starving(int what) {
        if (!ready) {
            return NONE;
        }
        if (what == 0) {
            return study.agentsWith(study.starves);
        }
        return what == 1 ? study.agentsWith(study.leftOut) : NONE;
    }

    public int uses(int rule) {
        return isRule(rule) ? atlas.allMoves(rule) : NONE;
    }

    public int without(int rule, int what) {
        if (!isRule(rule) || what < 0 || what >= FIGURES) {
            return NONE;
        }
        return study.lacking(rule, what);
    }

    public int mend() {
        return ready ? study.bestLeftOut() : NONE;
    }

    public int now(int agent, int what) {
        if (!ready) {
            return NONE;
        }
        if (agent == NONE) {
            switch (what) {
                case 0: return walk.home;
                case 1: return atlas.number(walk);
                case 2: return asNumber(table.isBad(walk));
                default: return NONE;
            }
        }
        return isAgent(agent) ? held(walk.code[agent], what) : NONE;
    }

    public int can(int rule, int agent) {
        if (!isRule(rule) || !isAgent(agent)) {
            return NONE;
        }
        return asNumber(table.go(walk, rule, agent, ahead));
    }

    public int move(int rule, int agent) {
        if (!isRule(rule) || !isAgent(agent) || !table.go(walk, rule, agent, ahead)) {
            return refuse(2);
        }
        remember();
        walk.copy(ahead);
        return atlas.number(walk);
    }

    public boolean jump(int world) {
        if (!isWorld(world)) {
            refuse(2);
            return false;
        }
        remember();
        walk.load(atlas.key[world], table.agents);
        return true;
    }

    public int chance(int n) {
        if (!ready || n < 1 || n > CHANCES_MOST) {
            return refuse(3);
        }
        remember();
        int made = 0;
        for (int i = 0; i < n; i++) {
            int choices = table.choices(walk, ahead);
            if (choices == 0) {
                break;
            }
            table.choose(walk, draw(choices), ahead);
            walk.copy(ahead);
            made++;
        }
        return made;
    }

    public boolean undo() {
        if (!ready || acts == 0) {
            refuse(4);
            return false;
        }
        acts--;
        walk.load(trail[acts], table.agents);
        return true;
    }

    public boolean seed(int seed) {
        if (seed < 0) {
            refuse(5);
            return false;
        }
        drawn = seed;
        return true;
    }

    public int see(int n) {
        boolean good = ready && n >= 0 && n <= SINCE_MOST && Sight.isSight(tape, table);
        if (good) {
            sight.take(tape, n);
        }
        tape.cut(0);
        return good ? sight.rows : refuse(1);
    }

    public int could(int k) {
        if (!ready) {
            return NONE;
        }
        sight.look(atlas, atlas.number(walk));
        if (k == NONE) {
            return sight.found;
        }
        return k >= 0 && k < sight.found ? sight.list[k] : NONE;
    }

    public int tells(int what) {
        if (!ready || what < 0 || what > 1) {
            return NONE;
        }
        sight.look(atlas, atlas.number(walk));
        if (sight.found == 0) {
            return NONE;
        }
        int state = sight.tellingState(atlas, table.count[STATES]);
        return what == 0 ? state : sight.mostLeft(atlas, state);
    }

    public int spell(int world) {
        if (!isWorld(world)) {
            return NONE;
        }
        write(world, written);
        return written.size();
    }

    public int which() {
        int found = NONE;
        for (int w = 0; ready && w < atlas.worlds && found == NONE; w++) {
            write(w, trial);
            if (trial.isLike(tape)) {
                found = w;
            }
        }
        tape.cut(0);
        return found == NONE ? refuse(5) : found;
    }

    public int image() {
        if (!ready) {
            return NONE;
        }
        written.cut(0);
        written.add(asByte(walk.home));
        for (int a = 0; a < table.agents; a++) {
            for (int what = 0; what < 4; what++) {
                written.add(asByte(held(walk.code[a], what)));
            }
        }
        written.add(written.check(written.size()));
        return written.size();
    }

    public int octet(int k) {
        return written.get(k);
    }

    public boolean on() {
        boolean good = ready && table.isImage(tape);
        if (good) {
            table.develop(tape, ahead);
            good = atlas.number(ahead) != NONE;
        }
        tape.cut(0);
        if (!good) {
            refuse(5);
            return false;
        }
        walk.copy(ahead);
        acts = 0;
        return true;
    }

    public int status(int what) {
        return what >= 0 && what < refused.length ? refused[what] : NONE;
    }

    private int refuse(int counter) {
        refused[counter]++;
        return NONE;
    }

    private boolean isRule(int rule) {
        return ready && rule >= 0 && rule < table.rows;
    }

    private boolean isAgent(int agent) {
        return ready && agent >= 0 && agent < table.agents;
    }

    private boolean isWorld(int world) {
        return ready && world >= 0 && world < atlas.worlds;
    }

    private void remember() {
        if (acts == ACTS_MOST) {
            System.arraycopy(trail, 1, trail, 0, ACTS_MOST - 1);
            acts--;
        }
        trail[acts] = walk.ownKey();
        acts++;
    }

    private int draw(int choices) {
        drawn = (1103515245L * drawn + 12345L) & 0x7fffffffL;
        return choices > 0 ? (int) ((drawn / 64) % choices) : 0;
    }

    private void write(int world, Bytes into) {
        into.cut(0);
        int home = atlas.home(world);
        if (home == NONE) {
            into.add('-');
        } else {
            into.addName(table.name(HOMES, home));
        }
        for (int a = 0; a < table.agents; a++) {
            writeAgent(atlas.code[world * AGENTS_MOST + a], into);
        }
    }

    private void writeAgent(int code, Bytes into) {
        into.add(' ');
        into.addName(table.name(STATES, held(code, 0)));
        if (held(code, 1) != NONE) {
            into.add('<');
            into.addName(table.name(MESSAGES, held(code, 1)));
            if (held(code, 2) != NONE) {
                into.add(',');
                into.addName(table.name(MESSAGES, held(code, 2)));
            }
            into.add('>');
        }
        if (held(code, 3) != NONE) {
            into.add('!');
            into.addName(table.name(MESSAGES, held(code, 3)));
        }
    }

    private static int asNumber(boolean so) {
        return so ? 1 : 0;
    }

    private static int asByte(int number) {
        return number == NONE ? NOTHING_BYTE : number;
    }

    private static boolean isLetter(int b) {
        return b >= 'a' && b <= 'z';
    }

    private static boolean isBlank(int b) {
        return b == ' ' || b == 10;
    }

    private static boolean isDigit(int b) {
        return b >= '0' && b <= '9';
    }

    /** A name is six letters of five bits each, the first one highest, 0 behind the last. */
    private static int letterOf(int name, int k) {
        return (name >> (5 * (LETTERS_MOST - 1 - k))) & 31;
    }

    private static int codeOf(int state, int first, int second, int out) {
        return ((state * HELD + first + 1) * HELD + second + 1) * HELD + out + 1;
    }

    /** What an agent has: 0 its state, 1 what is first in IN, 2 second, 3 in OUT. */
    private static int held(int code, int what) {
        switch (what) {
            case 0: return code / STATE_CODES;
            case 1: return code / (HELD * HELD) % HELD - 1;
            case 2: return code / HELD % HELD - 1;
            case 3: return code % HELD - 1;
            default: return NONE;
        }
    }

    /** A row of bytes that is made once and used again. */
    private static final class Bytes {
        private final int[] value = new int[TAPE_MOST];
        private int length = 0;

        int size() {
            return length;
        }

        int get(int k) {
            return k >= 0 && k < length ? value[k] : NONE;
        }

        void cut(int n) {
            if (n >= 0 && n < length) {
                length = n;
            }
        }

        void add(int b) {
            if (length < TAPE_MOST) {
                value[length] = b & 255;
                length++;
            }
        }

        void addNumber(int number) {
            for (int shift = 24; shift >= 0; shift -= 8) {
                add(number >> shift);
            }
        }

        void addName(int name) {
            for (int k = 0; k < LETTERS_MOST; k++) {
                int letter = letterOf(name, k);
                if (letter > 0) {
                    add('a' - 1 + letter);
                }
            }
        }

        boolean isLike(Bytes other) {
            if (length != other.length) {
                return false;
            }
            for (int k = 0; k < length; k++) {
                if (value[k] != other.value[k]) {
                    return false;
                }
            }
            return true;
        }

        /** What the last byte of an image must be, by the n bytes ahead of it. */
        int check(int n) {
            int sum = CHECK_START;
            for (int k = 0; k < n && k < length; k++) {
                sum = (5 * sum + value[k]) % CHECK_MODULUS;
            }
            return sum;
        }
    }

    /** A world whose agents are who they are; folding it tells where each of them would be put. */
    private static final class World {
        private int home = NONE;
        private int agents = 0;
        private final int[] code = new int[AGENTS_MOST];
        private final int[] place = new int[AGENTS_MOST];
        private final int[] risen = new int[AGENTS_MOST];

        void begin(Table table) {
            home = table.count[HOMES] > 0 ? 0 : NONE;
            agents = table.agents;
            Arrays.fill(code, codeOf(0, NONE, NONE, NONE));
        }

        void copy(World other) {
            home = other.home;
            agents = other.agents;
            System.arraycopy(other.code, 0, code, 0, AGENTS_MOST);
        }

        void load(long key, int many) {
            long rest = key;
            agents = many;
            for (int a = many - 1; a >= 0; a--) {
                code[a] = (int) (rest % CODES);
                rest /= CODES;
            }
            home = (int) rest - 1;
        }

        long ownKey() {
            return keyOf(code);
        }

        /** The key of the folded world; keys of worlds of one table rise as the worlds do. */
        long foldedKey() {
            for (int a = 0; a < agents; a++) {
                int ahead = 0;
                for (int b = 0; b < agents; b++) {
                    if (code[b] < code[a] || (code[b] == code[a] && b < a)) {
                        ahead++;
                    }
                }
                place[a] = ahead;
                risen[ahead] = code[a];
            }
            return keyOf(risen);
        }

        private long keyOf(int[] row) {
            long key = home + 1;
            for (int a = 0; a < agents; a++) {
                key = key * CODES + row[a];
            }
            return key;
        }

        boolean hasOther(int agent, int state) {
            for (int b = 0; b < agents; b++) {
                if (b != agent && held(code[b], 0) == state) {
                    return true;
                }
            }
            return false;
        }

        int inState(int state) {
            int many = 0;
            for (int a = 0; a < agents; a++) {
                many += held(code[a], 0) == state ? 1 : 0;
            }
            return many;
        }

        /** Whether the message had room in the IN of the agent, where it is then. */
        boolean receive(int agent, int message, boolean loose) {
            int first = held(code[agent], 1);
            int second = held(code[agent], 2);
            if (second != NONE) {
                return false;
            }
            if (first == NONE) {
                first = message;
            } else if (loose && message < first) {
                second = first;
                first = message;
            } else {
                second = message;
            }
            code[agent] = codeOf(held(code[agent], 0), first, second, held(code[agent], 3));
            return true;
        }
    }

    /** One rule of the table. */
    private static final class Row {
        private boolean atHome = false;
        private int from = NONE;
        private int with = NONE;
        private int to = NONE;
        private int gives = NONE;
        private int telling = NONE;
        private int others = NONE;
        private boolean some = false;

        void clear(boolean isAtHome) {
            atHome = isAtHome;
            from = NONE;
            with = NONE;
            to = NONE;
            gives = NONE;
            telling = NONE;
            others = NONE;
            some = false;
        }

        int told(int what) {
            switch (what) {
                case 0: return asNumber(atHome);
                case 1: return from;
                case 2: return with;
                case 3: return to;
                case 4: return gives;
                case 5: return telling;
                case 6: return others;
                case 7: return asNumber(some);
                default: return NONE;
            }
        }

        /** Whether the row speaks of such an agent and such a home at all. */
        boolean isFor(World world, int agent) {
            int code = world.code[agent];
            return atHome ? world.home == from && held(code, 3) == with : held(code, 0) == from;
        }

        /** Whether the agent that it is for can go by this row; the world is then the next one, else it is spoilt. */
        boolean go(World world, int agent, boolean loose) {
            return atHome ? serve(world, agent, loose) : step(world, agent, loose);
        }

        private boolean step(World world, int agent, boolean loose) {
            int code = world.code[agent];
            int first = held(code, 1);
            int second = held(code, 2);
            int out = held(code, 3);
            if (with != NONE) {
                boolean firstGoes = first == with;
                if (!firstGoes && !(loose && second == with)) {
                    return false;
                }
                first = firstGoes ? second : first;
                second = NONE;
            }
            if (gives != NONE) {
                if (out != NONE) {
                    return false;
                }
                out = gives;
            }
            world.code[agent] = codeOf(to, first, second, out);
            return true;
        }

        private boolean serve(World world, int agent, boolean loose) {
            int code = world.code[agent];
            if (others != NONE && world.hasOther(agent, others) != some) {
                return false;
            }
            world.home = to;
            world.code[agent] = codeOf(held(code, 0), held(code, 1), held(code, 2), NONE);
            if (gives != NONE && !world.receive(agent, gives, loose)) {
                return false;
            }
            for (int b = 0; telling != NONE && b < world.agents; b++) {
                if (b != agent && !world.receive(b, telling, loose)) {
                    return false;
                }
            }
            return true;
        }
    }

    /** What a text has told. */
    private static final class Table {
        private int agents = 0;
        private final int[] count = new int[KINDS];
        private final int[] names = new int[KINDS * NAMES_MOST];
        private boolean loose = false;
        private int rows = 0;
        private final Row[] row = new Row[RULES_MOST];
        private int nevers = 0;
        private final int[] counts = new int[NEVERS_MOST];
        private final int[] atLeast = new int[NEVERS_MOST * COUNTS_MOST];
        private final int[] ofState = new int[NEVERS_MOST * COUNTS_MOST];
        private int wanting = NONE;
        private int wanted = NONE;

        Table() {
            for (int r = 0; r < RULES_MOST; r++) {
                row[r] = new Row();
            }
        }

        void clear() {
            agents = 0;
            Arrays.fill(count, 0);
            loose = false;
            rows = 0;
            nevers = 0;
            wanting = NONE;
            wanted = NONE;
        }

        int name(int kind, int which) {
            return which >= 0 && which < count[kind] ? names[kind * NAMES_MOST + which] : 0;
        }

        int find(int kind, int name) {
            for (int i = 0; i < count[kind]; i++) {
                if (names[kind * NAMES_MOST + i] == name) {
                    return i;
                }
            }
            return NONE;
        }

        boolean isTaken(int name) {
            for (int kind = 0; kind < KINDS; kind++) {
                if (find(kind, name) != NONE) {
                    return true;
                }
            }
            return false;
        }

        void give(int kind, int name) {
            if (count[kind] < NAMES_MOST) {
                names[kind * NAMES_MOST + count[kind]] = name;
                count[kind]++;
            }
        }

        /** The next row, cleared; the reader has looked whether there is room for it. */
        Row newRow(boolean atHome) {
            int last = Math.min(rows, RULES_MOST - 1);
            row[last].clear(atHome);
            rows = last + 1;
            return row[last];
        }

        void openNever() {
            if (nevers < NEVERS_MOST) {
                counts[nevers] = 0;
                nevers++;
            }
        }

        void addCount(int many, int state) {
            int last = nevers - 1;
            if (last >= 0 && counts[last] < COUNTS_MOST) {
                int k = last * COUNTS_MOST + counts[last];
                atLeast[k] = many;
                ofState[k] = state;
                counts[last]++;
            }
        }

        boolean isBad(World world) {
            for (int n = 0; n < nevers; n++) {
                boolean all = true;
                for (int c = 0; c < counts[n]; c++) {
                    int k = n * COUNTS_MOST + c;
                    all &= world.inState(ofState[k]) >= atLeast[k];
                }
                if (all) {
                    return true;
                }
            }
            return false;
        }

        /** Whether the move can be; the next world is then the one to which it leads. */
        boolean go(World world, int rule, int agent, World next) {
            if (!row[rule].isFor(world, agent)) {
                return false;
            }
            next.copy(world);
            return row[rule].go(next, agent, loose);
        }

        int choices(World world, World next) {
            int many = 0;
            for (int r = 0; r < rows; r++) {
                for (int a = 0; a < agents; a++) {
                    many += go(world, r, a, next) ? 1 : 0;
                }
            }
            return many;
        }

        /** The next world is the one to which the k-th move that can be leads. */
        void choose(World world, int k, World next) {
            int left = k;
            for (int r = 0; r < rows; r++) {
                for (int a = 0; a < agents; a++) {
                    if (go(world, r, a, next)) {
                        if (left == 0) {
                            return;
                        }
                        left--;
                    }
                }
            }
        }

        boolean isImage(Bytes bytes) {
            int length = 2 + 4 * agents;
            if (bytes.size() != length || bytes.get(length - 1) != bytes.check(length - 1)) {
                return false;
            }
            if (!isOneOf(bytes.get(0), HOMES)) {
                return false;
            }
            for (int k = 1; k < length - 1; k++) {
                boolean isState = k % 4 == 1;
                if (isState ? bytes.get(k) >= count[STATES] : !isOneOf(bytes.get(k), MESSAGES)) {
                    return false;
                }
            }
            return true;
        }

        private boolean isOneOf(int b, int kind) {
            return b == NOTHING_BYTE || b < count[kind];
        }

        /** Makes the world of bytes that are an image by their ranges. */
        void develop(Bytes bytes, World world) {
            world.agents = agents;
            world.home = heldBy(bytes.get(0));
            for (int a = 0; a < agents; a++) {
                int k = 1 + 4 * a;
                world.code[a] = codeOf(bytes.get(k), heldBy(bytes.get(k + 1)), heldBy(bytes.get(k + 2)),
                        heldBy(bytes.get(k + 3)));
            }
        }

        private static int heldBy(int b) {
            return b == NOTHING_BYTE ? NONE : b;
        }
    }

    /** Reads a text from left to right into its draft of a table; the first fault ends it. */
    private static final class Reader {
        private static final int END = 0;
        private static final int NAME = 1;
        private static final int OWN_WORD = 2;
        private static final int NUMBER = 3;
        private static final int SIGN = 4;
        /** A word or number that lacks the blank ahead of it: nothing that could be asked for. */
        private static final int GLUED = 5;
        /** More letters than any own word has, few enough for a long. */
        private static final int LETTERS_PACKED = 12;

        private Table draft = new Table();
        private final int[] sort = new int[TAPE_MOST + 1];
        private final int[] start = new int[TAPE_MOST + 1];
        private final int[] size = new int[TAPE_MOST + 1];
        private final long[] code = new long[TAPE_MOST + 1];
        /** The token that comes next. */
        private int at = 0;
        private int found = NONE;
        private int fault = 0;
        private int place = NONE;

        /** How many statements the text has, or NONE. */
        int read(Bytes text) {
            draft.clear();
            fault = 0;
            place = NONE;
            at = 0;
            scan(text);
            int statements = 0;
            for (int i = 0; i <= STATEMENTS_MOST && sort[at] != END; i++) {
                if (i == STATEMENTS_MOST) {
                    refuse(TOO_MANY, start[at]);
                    return NONE;
                }
                if (!(i == 0 ? opening() : statement()) || !sign(';')) {
                    return NONE;
                }
                statements++;
            }
            if (statements == 0) {
                unexpected();
                return NONE;
            }
            return statements;
        }

        boolean refuse(int what, int where) {
            fault = what;
            place = where;
            return false;
        }

        private boolean unexpected() {
            fault = UNEXPECTED;
            place = start[at];
            return false;
        }

        private void scan(Bytes text) {
            int tokens = 0;
            int ended = NONE;
            int k = 0;
            for (int i = 0; i < TAPE_MOST && k < text.size(); i++) {
                int length = 1;
                if (!isBlank(text.get(k))) {
                    boolean isSign = take(text, k, tokens);
                    length = size[tokens];
                    if (!isSign) {
                        sort[tokens] = ended == k ? GLUED : sort[tokens];
                        ended = k + length;
                    }
                    tokens++;
                }
                k += length;
            }
            sort[tokens] = END;
            start[tokens] = text.size();
        }

        /** Makes the token that starts at byte k: whether it is a sign. */
        private boolean take(Bytes text, int k, int token) {
            int b = text.get(k);
            start[token] = k;
            size[token] = 1;
            code[token] = b;
            sort[token] = SIGN;
            if (isLetter(b)) {
                takeWord(text, k, token);
            } else if (isDigit(b)) {
                takeNumber(text, k, token);
            }
            return sort[token] == SIGN;
        }

        private void takeWord(Bytes text, int k, int token) {
            long letters = 0;
            int many = 0;
            while (many < TAPE_MOST && isLetter(text.get(k + many))) {
                letters = many < LETTERS_PACKED ? letters << 5 | (text.get(k + many) - 'a' + 1) : letters;
                many++;
            }
            size[token] = many;
            code[token] = letters;
            sort[token] = isOwnWord(letters) ? OWN_WORD : NAME;
        }

        private void takeNumber(Bytes text, int k, int token) {
            int many = 0;
            while (many < TAPE_MOST && isDigit(text.get(k + many))) {
                many++;
            }
            size[token] = many;
            code[token] = text.get(k) - '0';
            sort[token] = NUMBER;
        }

        private static boolean isOwnWord(long letters) {
            long own = 0;
            for (int k = 0; k < OWN_WORDS.length(); k++) {
                char sign = OWN_WORDS.charAt(k);
                if (sign != ' ') {
                    own = own << 5 | (sign - 'a' + 1);
                } else if (own == letters) {
                    return true;
                } else {
                    own = 0;
                }
            }
            return false;
        }

        private boolean isNext(String word) {
            long letters = 0;
            for (int k = 0; k < word.length(); k++) {
                letters = letters << 5 | (word.charAt(k) - 'a' + 1);
            }
            return sort[at] == OWN_WORD && code[at] == letters;
        }

        /** Whether the word stood next; it is behind us then. */
        private boolean word(String word) {
            boolean so = isNext(word);
            at += so ? 1 : 0;
            return so;
        }

        private boolean ask(String word) {
            return word(word) || unexpected();
        }

        private boolean sign(char wanted) {
            if (sort[at] != SIGN || code[at] != wanted) {
                return unexpected();
            }
            at++;
            return true;
        }

        private boolean number(int least, int most) {
            if (sort[at] != NUMBER) {
                return unexpected();
            }
            if (size[at] > 1) {
                return refuse(UNEXPECTED, start[at] + 1);
            }
            found = (int) code[at];
            if (found < least || found > most) {
                return refuse(WRONG_NUMBER, start[at]);
            }
            at++;
            return true;
        }

        /** Finds a name as such, whatever it stands for; it still is what comes next. */
        private boolean name() {
            if (sort[at] != NAME) {
                return unexpected();
            }
            if (size[at] > LETTERS_MOST) {
                return refuse(UNEXPECTED, start[at] + LETTERS_MOST);
            }
            found = (int) (code[at] << (5 * (LETTERS_MOST - size[at])));
            return true;
        }

        /** A name that has been given to one of the kind: which one is found. */
        private boolean known(int kind) {
            if (!name()) {
                return false;
            }
            found = draft.find(kind, found);
            if (found == NONE) {
                return refuse(WRONG_NAME, start[at]);
            }
            at++;
            return true;
        }

        private boolean given(int kind) {
            if (!name()) {
                return false;
            }
            if (draft.isTaken(found)) {
                return refuse(WRONG_NAME, start[at]);
            }
            draft.give(kind, found);
            at++;
            return true;
        }

        /** A word and the name behind it, if the word is there; else NONE is found. */
        private boolean maybe(String word, int kind) {
            found = NONE;
            return !word(word) || known(kind);
        }

        /** Behind the last one that may be: anything is one too many, but a text that ends here is too short. */
        private boolean oneTooMany() {
            return sort[at] == END ? unexpected() : refuse(TOO_MANY, start[at]);
        }

        private boolean names(int kind) {
            for (int i = 0; i < NAMES_MOST; i++) {
                if (!given(kind)) {
                    return false;
                }
                if (sort[at] != SIGN || code[at] != ',') {
                    return true;
                }
                at++;
            }
            return oneTooMany();
        }

        private boolean opening() {
            if (!ask("agents") || !number(2, AGENTS_MOST)) {
                return false;
            }
            draft.agents = found;
            return ask("states") && names(STATES);
        }

        private boolean statement() {
            int first = start[at];
            if (word("home")) {
                return isFree(draft.count[HOMES] == 0, first) && names(HOMES);
            }
            if (word("messages")) {
                return isFree(draft.count[MESSAGES] == 0, first) && names(MESSAGES);
            }
            if (word("order")) {
                draft.loose = isNext("loose");
                return word("loose") || ask("kept");
            }
            if (word("never")) {
                return isFree(draft.nevers < NEVERS_MOST, first) && never();
            }
            if (word("wants")) {
                return isFree(draft.wanting == NONE, first) && wants();
            }
            if (word("on")) {
                return isFree(draft.rows < RULES_MOST, first) && agentRow(draft.newRow(false));
            }
            if (word("at")) {
                return isFree(draft.rows < RULES_MOST, first) && homeRow(draft.newRow(true));
            }
            return unexpected();
        }

        private boolean isFree(boolean free, int first) {
            return free || refuse(TOO_MANY, first);
        }

        private boolean never() {
            draft.openNever();
            for (int i = 0; i < COUNTS_MOST; i++) {
                if (!number(1, AGENTS_MOST)) {
                    return false;
                }
                int many = found;
                if (!known(STATES)) {
                    return false;
                }
                draft.addCount(many, found);
                if (!word("and")) {
                    return true;
                }
            }
            return oneTooMany();
        }

        private boolean wants() {
            if (!known(STATES)) {
                return false;
            }
            draft.wanting = found;
            if (!known(STATES)) {
                return false;
            }
            draft.wanted = found;
            return true;
        }

        private boolean agentRow(Row row) {
            if (!known(STATES)) {
                return false;
            }
            row.from = found;
            if (!maybe("with", MESSAGES)) {
                return false;
            }
            row.with = found;
            if (!ask("to") || !known(STATES)) {
                return false;
            }
            row.to = found;
            if (!maybe("sends", MESSAGES)) {
                return false;
            }
            row.gives = found;
            return true;
        }

        private boolean homeRow(Row row) {
            if (!known(HOMES)) {
                return false;
            }
            row.from = found;
            if (!ask("with") || !known(MESSAGES)) {
                return false;
            }
            row.with = found;
            if (!ask("to") || !known(HOMES)) {
                return false;
            }
            row.to = found;
            if (!maybe("replies", MESSAGES)) {
                return false;
            }
            row.gives = found;
            if (!maybe("tells", MESSAGES)) {
                return false;
            }
            row.telling = found;
            row.some = isNext("some");
            if (!maybe(row.some ? "some" : "none", STATES)) {
                return false;
            }
            row.others = found;
            return true;
        }
    }

    /** Finds the number that a key was given. */
    private static final class Index {
        private static final int SLOTS = 2048;
        private final long[] keys = new long[SLOTS];
        private final int[] numbers = new int[SLOTS];

        void clear() {
            Arrays.fill(numbers, NONE);
        }

        int find(long key) {
            int slot = slotOf(key);
            return slot == NONE ? NONE : numbers[slot];
        }

        void put(long key, int number) {
            int slot = slotOf(key);
            if (slot != NONE) {
                keys[slot] = key;
                numbers[slot] = number;
            }
        }

        /** Where the key is, or the free slot where it belongs. */
        private int slotOf(long key) {
            int slot = (int) ((key * 0x9E3779B97F4A7C15L) >>> 53);
            for (int i = 0; i < SLOTS; i++) {
                int here = (slot + i) & (SLOTS - 1);
                if (numbers[here] == NONE || keys[here] == key) {
                    return here;
                }
            }
            return NONE;
        }
    }

    /**
     * Goes through the worlds breadth first, by one world for each folded one, that to which the least way leads.
     * That is enough for the ways: what goes on from a greater way is greater, too.
     */
    private static final class Search {
        private final Index index = new Index();
        private final long[] own = new long[WORLDS_MOST];
        private final long[] folded = new long[WORLDS_MOST];
        private final int[] depth = new int[WORLDS_MOST];
        private final int[] parent = new int[WORLDS_MOST];
        private final int[] step = new int[WORLDS_MOST];
        private final World here = new World();
        private final World there = new World();
        private int worlds = 0;

        /** Whether there are not too many worlds. */
        boolean explore(Table table) {
            index.clear();
            worlds = 0;
            there.begin(table);
            meet(NONE, 0);
            for (int w = 0; w < WORLDS_MOST && w < worlds; w++) {
                here.load(own[w], table.agents);
                if (!expand(w, table)) {
                    return false;
                }
            }
            return true;
        }

        private boolean expand(int world, Table table) {
            for (int r = 0; r < table.rows; r++) {
                for (int a = 0; a < table.agents; a++) {
                    if (table.go(here, r, a, there) && !meet(world, r * AGENTS_MOST + a)) {
                        return false;
                    }
                }
            }
            return true;
        }

        private boolean meet(int from, int by) {
            long key = there.foldedKey();
            if (index.find(key) != NONE) {
                return true;
            }
            if (worlds == WORLDS_MOST) {
                return false;
            }
            index.put(key, worlds);
            folded[worlds] = key;
            own[worlds] = there.ownKey();
            depth[worlds] = from == NONE ? 0 : depth[from] + 1;
            parent[worlds] = from;
            step[worlds] = by;
            worlds++;
            return true;
        }
    }

    /** The folded worlds by their numbers, and all that leads from one to another. */
    private static final class Atlas {
        private int worlds = 0;
        private int agents = 0;
        private final Index index = new Index();
        private final long[] key = new long[WORLDS_MOST];
        private final int[] depth = new int[WORLDS_MOST];
        private final int[] parent = new int[WORLDS_MOST];
        private final int[] step = new int[WORLDS_MOST];
        private final int[] times = new int[WORLDS_MOST];
        private final boolean[] bad = new boolean[WORLDS_MOST];
        private final int[] code = new int[NODES_MOST];
        /** The first agent of the same world that is just like this one. */
        private final int[] like = new int[NODES_MOST];
        private final int[] from = new int[WORLDS_MOST + 1];
        /** Of each move: where it leads, rule, agent, and two bits for each agent that tell where it is put then. */
        private final int[] moves = new int[MOVES_MOST];
        private final int[] sorted = new int[WORLDS_MOST];
        private final int[] rank = new int[WORLDS_MOST];
        private final World here = new World();
        private final World there = new World();

        void fill(Search search, Table table) {
            worlds = search.worlds;
            agents = table.agents;
            index.clear();
            sort(search);
            for (int w = 0; w < worlds; w++) {
                int met = sorted[w];
                key[w] = search.folded[met];
                depth[w] = search.depth[met];
                parent[w] = search.parent[met] == NONE ? NONE : rank[search.parent[met]];
                step[w] = search.step[met];
                index.put(key[w], w);
            }
            int made = 0;
            for (int w = 0; w < worlds; w++) {
                from[w] = made;
                here.load(key[w], agents);
                describe(w, table);
                made = addMoves(made, table);
            }
            from[worlds] = made;
        }

        /** The search met them by depth already, so only those of like depth change places. */
        private void sort(Search search) {
            for (int met = 0; met < worlds; met++) {
                int k = met;
                while (k > 0 && isAfter(search, sorted[k - 1], met)) {
                    sorted[k] = sorted[k - 1];
                    k--;
                }
                sorted[k] = met;
            }
            for (int w = 0; w < worlds; w++) {
                rank[sorted[w]] = w;
            }
        }

        private static boolean isAfter(Search search, int one, int other) {
            if (search.depth[one] != search.depth[other]) {
                return search.depth[one] > search.depth[other];
            }
            return search.folded[one] > search.folded[other];
        }

        private void describe(int world, Table table) {
            bad[world] = table.isBad(here);
            int ways = 1;
            int alike = 0;
            for (int a = 0; a < agents; a++) {
                int node = world * AGENTS_MOST + a;
                code[node] = here.code[a];
                boolean same = a > 0 && here.code[a] == here.code[a - 1];
                like[node] = same ? like[node - 1] : a;
                alike = same ? alike + 1 : 1;
                ways = ways * (a + 1) / alike;
            }
            times[world] = ways;
        }

        private int addMoves(int made, Table table) {
            int next = made;
            for (int r = 0; r < table.rows; r++) {
                for (int a = 0; a < agents; a++) {
                    if (next < MOVES_MOST && table.go(here, r, a, there)) {
                        moves[next] = pack(number(there), r, a);
                        next++;
                    }
                }
            }
            return next;
        }

        private int pack(int target, int rule, int agent) {
            int put = 0;
            for (int a = 0; a < agents; a++) {
                put |= there.place[a] << (2 * a);
            }
            return ((target * RULES_MOST + rule) * AGENTS_MOST + agent) << 8 | put;
        }

        int number(World world) {
            return index.find(world.foldedKey());
        }

        int target(int m) {
            return moves[m] >> 14;
        }

        int by(int m) {
            return (moves[m] >> 10) & 15;
        }

        int mover(int m) {
            return (moves[m] >> 8) & 3;
        }

        /** Which agent of the target one is that was the a-th. */
        int put(int m, int a) {
            return (moves[m] >> (2 * a)) & 3;
        }

        int movesFrom(int world) {
            return from[world + 1] - from[world];
        }

        int home(int world) {
            here.load(key[world], agents);
            return here.home;
        }

        int leading(int world, int rule, int agent) {
            for (int m = from[world]; m < from[world + 1]; m++) {
                if (by(m) == rule && mover(m) == agent) {
                    return target(m);
                }
            }
            return NONE;
        }

        /** The step of the way to the world, that many ahead of its last one. */
        int stepTo(int world, int back) {
            int w = world;
            for (int i = 0; i < back && parent[w] != NONE; i++) {
                w = parent[w];
            }
            return step[w];
        }

        int allWorlds() {
            int sum = 0;
            for (int w = 0; w < worlds; w++) {
                sum += times[w];
            }
            return sum;
        }

        /** How many moves by the rule from all worlds, or by any, if it is NONE. */
        int allMoves(int rule) {
            int sum = 0;
            for (int w = 0; w < worlds; w++) {
                for (int m = from[w]; m < from[w + 1]; m++) {
                    sum += rule == NONE || by(m) == rule ? times[w] : 0;
                }
            }
            return sum;
        }

        int allBad() {
            int sum = 0;
            for (int w = 0; w < worlds; w++) {
                sum += bad[w] ? times[w] : 0;
            }
            return sum;
        }

        int allStuck() {
            int sum = 0;
            for (int w = 0; w < worlds; w++) {
                sum += movesFrom(w) == 0 ? times[w] : 0;
            }
            return sum;
        }

        int firstBad() {
            for (int w = 0; w < worlds; w++) {
                if (bad[w]) {
                    return w;
                }
            }
            return NONE;
        }

        int firstStuck() {
            for (int w = 0; w < worlds; w++) {
                if (movesFrom(w) == 0) {
                    return w;
                }
            }
            return NONE;
        }

        int inState(int world, int state) {
            int many = 0;
            for (int a = 0; a < agents; a++) {
                many += held(code[world * AGENTS_MOST + a], 0) == state ? 1 : 0;
            }
            return many;
        }
    }

    /**
     * The groups of nodes that are strongly joined, found in one go over the net (after Tarjan): a group is closed
     * after all groups to which it leads. A node is a world, or a world and one agent in it that is followed.
     */
    private static final class Joined {
        private static final int STEPS_MOST = 1000000;
        private final Atlas atlas;
        private boolean followed = false;
        private int skipped = NONE;
        private int avoided = NONE;
        private int groups = 0;
        private final int[] group = new int[NODES_MOST];
        private final int[] start = new int[NODES_MOST + 1];
        private final int[] member = new int[NODES_MOST];
        private final int[] order = new int[NODES_MOST];
        private final int[] low = new int[NODES_MOST];
        private final int[] edge = new int[NODES_MOST];
        private final int[] waiting = new int[NODES_MOST];
        private final int[] open = new int[NODES_MOST];
        private int entered = 0;
        private int waits = 0;
        private int opened = 0;

        Joined(Atlas net) {
            atlas = net;
        }

        /** Without the moves of a rule, and without the worlds in which an agent that is followed is in a state. */
        void join(boolean followAgents, int withoutRule, int withoutState) {
            followed = followAgents;
            skipped = withoutRule;
            avoided = withoutState;
            groups = 0;
            entered = 0;
            waits = 0;
            opened = 0;
            start[0] = 0;
            Arrays.fill(group, NONE);
            Arrays.fill(order, NONE);
            for (int node = 0; node < atlas.worlds * AGENTS_MOST; node++) {
                if (order[node] == NONE && isNode(node)) {
                    goThrough(node);
                }
            }
        }

        private boolean isNode(int node) {
            int agent = node % AGENTS_MOST;
            if (!followed) {
                return agent == 0;
            }
            return agent < atlas.agents && atlas.like[node] == agent && !isAvoided(node);
        }

        private boolean isAvoided(int node) {
            return avoided != NONE && atlas.code[node] / STATE_CODES == avoided;
        }

        /** The node to which a move leads, or NONE. */
        int next(int node, int m) {
            if (atlas.by(m) == skipped) {
                return NONE;
            }
            int target = atlas.target(m) * AGENTS_MOST;
            if (!followed) {
                return target;
            }
            target += atlas.like[target + atlas.put(m, node % AGENTS_MOST)];
            return isAvoided(target) ? NONE : target;
        }

        private void goThrough(int root) {
            enter(root);
            for (int i = 0; i < STEPS_MOST && opened > 0; i++) {
                int node = open[opened - 1];
                int m = edge[node];
                if (m < atlas.from[node / AGENTS_MOST + 1]) {
                    edge[node] = m + 1;
                    follow(node, next(node, m));
                } else {
                    leave(node);
                }
            }
        }

        private void enter(int node) {
            order[node] = entered;
            low[node] = entered;
            entered++;
            edge[node] = atlas.from[node / AGENTS_MOST];
            waiting[waits] = node;
            waits++;
            open[opened] = node;
            opened++;
        }

        private void follow(int node, int next) {
            if (next == NONE) {
                return;
            }
            if (order[next] == NONE) {
                enter(next);
            } else if (group[next] == NONE) {
                low[node] = Math.min(low[node], order[next]);
            }
        }

        private void leave(int node) {
            opened--;
            if (opened > 0) {
                int before = open[opened - 1];
                low[before] = Math.min(low[before], low[node]);
            }
            if (low[node] == order[node]) {
                close(node);
            }
        }

        private void close(int node) {
            int filled = start[groups];
            int last = NONE;
            while (waits > 0 && last != node) {
                waits--;
                last = waiting[waits];
                group[last] = groups;
                member[filled] = last;
                filled++;
            }
            groups++;
            start[groups] = filled;
        }

        /** Marks all nodes from which one can come to a marked one; one pass, as groups close behind their goals. */
        void spread(boolean[] marked) {
            for (int g = 0; g < groups; g++) {
                boolean reaches = false;
                for (int i = start[g]; i < start[g + 1] && !reaches; i++) {
                    reaches = marked[member[i]] || leadsToMarked(member[i], marked);
                }
                for (int i = start[g]; i < start[g + 1]; i++) {
                    marked[member[i]] |= reaches;
                }
            }
        }

        private boolean leadsToMarked(int node, boolean[] marked) {
            int world = node / AGENTS_MOST;
            for (int m = atlas.from[world]; m < atlas.from[world + 1]; m++) {
                int next = next(node, m);
                if (next != NONE && marked[next]) {
                    return true;
                }
            }
            return false;
        }

        /** Whether fair turns can go on for ever in the group: what the agent can do itself, it does there. */
        boolean isRing(int g, Table table) {
            boolean again = false;
            int can = 0;
            int does = 0;
            for (int i = start[g]; i < start[g + 1]; i++) {
                int node = member[i];
                int world = node / AGENTS_MOST;
                for (int m = atlas.from[world]; m < atlas.from[world + 1]; m++) {
                    int next = next(node, m);
                    boolean inside = next != NONE && group[next] == g;
                    again |= inside;
                    if (atlas.mover(m) == node % AGENTS_MOST && !table.row[atlas.by(m)].atHome) {
                        can |= 1 << atlas.by(m);
                        does |= inside ? 1 << atlas.by(m) : 0;
                    }
                }
            }
            return again && can == does;
        }
    }

    /** What follows from the net of the worlds: parts, who starves or is left out, what is without a rule. */
    private static final class Study {
        private final Atlas atlas;
        private final Joined joined;
        private Table table;
        private int parts = 0;
        private final int[] partOf = new int[WORLDS_MOST];
        private final int[] partSize = new int[WORLDS_MOST];
        private final int[] partFirst = new int[WORLDS_MOST];
        private final boolean[] partEnds = new boolean[WORLDS_MOST];
        private final int[] partOfGroup = new int[WORLDS_MOST];
        private final boolean[] starves = new boolean[NODES_MOST];
        private final boolean[] leftOut = new boolean[NODES_MOST];
        private final boolean[] marked = new boolean[NODES_MOST];
        private final boolean[] reached = new boolean[WORLDS_MOST];
        private final int[] queue = new int[WORLDS_MOST];
        private final boolean[] figured = new boolean[RULES_MOST];
        private final int[] figures = new int[RULES_MOST * FIGURES];

        Study(Atlas net, Table firstTable) {
            atlas = net;
            joined = new Joined(net);
            table = firstTable;
        }

        void begin(Table told) {
            table = told;
            findParts();
            clear(starves);
            clear(leftOut);
            if (table.wanting != NONE) {
                markHoping(NONE);
                tellWanting(starves, false);
                markRings();
                tellWanting(leftOut, true);
            }
            for (int r = 0; r < RULES_MOST; r++) {
                figured[r] = false;
            }
        }

        private static void clear(boolean[] row) {
            for (int k = 0; k < row.length; k++) {
                row[k] = false;
            }
        }

        private void findParts() {
            joined.join(false, NONE, NONE);
            Arrays.fill(partOfGroup, NONE);
            parts = 0;
            for (int w = 0; w < atlas.worlds; w++) {
                int g = joined.group[w * AGENTS_MOST];
                if (partOfGroup[g] == NONE) {
                    partOfGroup[g] = parts;
                    partFirst[parts] = w;
                    partSize[parts] = 0;
                    partEnds[parts] = true;
                    parts++;
                }
                partOf[w] = partOfGroup[g];
                partSize[partOf[w]]++;
            }
            for (int w = 0; w < atlas.worlds; w++) {
                for (int m = atlas.from[w]; m < atlas.from[w + 1]; m++) {
                    if (partOf[atlas.target(m)] != partOf[w]) {
                        partEnds[partOf[w]] = false;
                    }
                }
            }
        }

        /** Marks the agents that can come to what is wanted, without a rule or (NONE) by all of them. */
        private void markHoping(int withoutRule) {
            clear(marked);
            for (int node = 0; node < atlas.worlds * AGENTS_MOST; node++) {
                marked[node] = isAgentIn(node, table.wanted);
            }
            joined.join(true, withoutRule, NONE);
            joined.spread(marked);
        }

        /** Marks the agents that can come to a ring. */
        private void markRings() {
            clear(marked);
            joined.join(true, NONE, table.wanted);
            for (int g = 0; g < joined.groups; g++) {
                if (joined.isRing(g, table)) {
                    for (int i = joined.start[g]; i < joined.start[g + 1]; i++) {
                        marked[joined.member[i]] = true;
                    }
                }
            }
            joined.spread(marked);
        }

        /** Of the agents that want, those that are marked so; of like agents only the first bears marks. */
        private void tellWanting(boolean[] into, boolean so) {
            for (int node = 0; node < atlas.worlds * AGENTS_MOST; node++) {
                if (isAgentIn(node, table.wanting)) {
                    into[node] = marked[firstLike(node)] == so;
                }
            }
        }

        private boolean isAgentIn(int node, int state) {
            return node % AGENTS_MOST < atlas.agents && held(atlas.code[node], 0) == state;
        }

        private int firstLike(int node) {
            return node - node % AGENTS_MOST + atlas.like[node];
        }

        int firstWith(boolean[] of) {
            for (int node = 0; node < atlas.worlds * AGENTS_MOST; node++) {
                if (of[node]) {
                    return node / AGENTS_MOST;
                }
            }
            return NONE;
        }

        int agentsWith(boolean[] of) {
            int sum = 0;
            for (int node = 0; node < atlas.worlds * AGENTS_MOST; node++) {
                sum += of[node] ? atlas.times[node / AGENTS_MOST] : 0;
            }
            return sum;
        }

        int worldsOfPart(int part) {
            int sum = 0;
            for (int w = 0; w < atlas.worlds; w++) {
                sum += partOf[w] == part ? atlas.times[w] : 0;
            }
            return sum;
        }

        /** What is so without the rule: folded worlds, worlds, bad ones, stuck ones, agents that starve. */
        int lacking(int rule, int what) {
            figure(rule);
            return figures[rule * FIGURES + what];
        }

        private void figure(int rule) {
            if (figured[rule]) {
                return;
            }
            figured[rule] = true;
            int at = rule * FIGURES;
            int many = reach(rule);
            for (int what = 0; what < FIGURES; what++) {
                figures[at + what] = 0;
            }
            figures[at] = many;
            boolean wants = table.wanting != NONE;
            if (wants) {
                markHoping(rule);
            }
            for (int i = 0; i < many; i++) {
                int w = queue[i];
                figures[at + 1] += atlas.times[w];
                figures[at + 2] += atlas.bad[w] ? atlas.times[w] : 0;
                figures[at + 3] += isStuckWithout(w, rule) ? atlas.times[w] : 0;
                figures[at + 4] += wants ? atlas.times[w] * hopeless(w) : 0;
            }
        }

        /** Fills the queue with the worlds that are reached without the rule: how many. */
        private int reach(int rule) {
            clear(reached);
            queue[0] = 0;
            reached[0] = true;
            int many = 1;
            for (int i = 0; i < many && i < WORLDS_MOST; i++) {
                int w = queue[i];
                for (int m = atlas.from[w]; m < atlas.from[w + 1]; m++) {
                    int target = atlas.target(m);
                    if (atlas.by(m) != rule && !reached[target]) {
                        reached[target] = true;
                        queue[many] = target;
                        many++;
                    }
                }
            }
            return many;
        }

        private boolean isStuckWithout(int world, int rule) {
            for (int m = atlas.from[world]; m < atlas.from[world + 1]; m++) {
                if (atlas.by(m) != rule) {
                    return false;
                }
            }
            return true;
        }

        private int hopeless(int world) {
            int many = 0;
            for (int a = 0; a < atlas.agents; a++) {
                int node = world * AGENTS_MOST + a;
                many += isAgentIn(node, table.wanting) && !marked[firstLike(node)] ? 1 : 0;
            }
            return many;
        }

        int bestLeftOut() {
            int best = table.rows > 0 ? 0 : NONE;
            for (int r = 0; r < table.rows; r++) {
                figure(r);
                if (isBetter(r, best)) {
                    best = r;
                }
            }
            return best;
        }

        /** By the bad worlds, then the stuck ones, then the agents that starve, once both are figured. */
        private boolean isBetter(int rule, int other) {
            for (int what = 2; what < FIGURES; what++) {
                int one = figures[rule * FIGURES + what];
                int two = figures[other * FIGURES + what];
                if (one != two) {
                    return one < two;
                }
            }
            return false;
        }
    }

    /** What was seen, and in which worlds it could be by that. */
    private static final class Sight {
        private final int[] state = new int[SEEN_MOST];
        private final int[] many = new int[SEEN_MOST];
        private int rows = 0;
        private int since = 0;
        private final boolean[] here = new boolean[WORLDS_MOST];
        private final boolean[] there = new boolean[WORLDS_MOST];
        private final int[] list = new int[WORLDS_MOST];
        private int found = 0;
        /** The world from which the list was made, NONE if it has to be made anew. */
        private int lookedFrom = NONE;
        private final int[] tally = new int[AGENTS_MOST + 1];

        static boolean isSight(Bytes bytes, Table table) {
            int length = bytes.size();
            if (length < 2 || length > 2 * SEEN_MOST || length % 2 != 0) {
                return false;
            }
            for (int k = 0; k < length; k += 2) {
                if (bytes.get(k) >= table.count[STATES] || bytes.get(k + 1) > AGENTS_MOST) {
                    return false;
                }
            }
            return true;
        }

        void forget() {
            rows = 0;
            since = 0;
            lookedFrom = NONE;
        }

        void take(Bytes bytes, int moves) {
            rows = Math.min(bytes.size() / 2, SEEN_MOST);
            for (int k = 0; k < rows; k++) {
                state[k] = bytes.get(2 * k);
                many[k] = bytes.get(2 * k + 1);
            }
            since = moves;
            lookedFrom = NONE;
        }

        void look(Atlas atlas, int from) {
            if (from == NONE || from == lookedFrom) {
                return;
            }
            for (int w = 0; w < atlas.worlds; w++) {
                here[w] = w == from;
            }
            for (int i = 0; i < since; i++) {
                goOn(atlas);
            }
            found = 0;
            for (int w = 0; w < atlas.worlds; w++) {
                if (here[w] && isAsSeen(atlas, w)) {
                    list[found] = w;
                    found++;
                }
            }
            lookedFrom = from;
        }

        private void goOn(Atlas atlas) {
            for (int w = 0; w < atlas.worlds; w++) {
                there[w] = false;
            }
            for (int w = 0; w < atlas.worlds; w++) {
                for (int m = atlas.from[w]; here[w] && m < atlas.from[w + 1]; m++) {
                    there[atlas.target(m)] = true;
                }
            }
            for (int w = 0; w < atlas.worlds; w++) {
                here[w] = there[w];
            }
        }

        private boolean isAsSeen(Atlas atlas, int world) {
            for (int k = 0; k < rows; k++) {
                if (atlas.inState(world, state[k]) != many[k]) {
                    return false;
                }
            }
            return true;
        }

        /** How many could be left at the most, once it is told how many agents are in the state. */
        int mostLeft(Atlas atlas, int asked) {
            Arrays.fill(tally, 0);
            int most = 0;
            for (int k = 0; k < found; k++) {
                int agents = atlas.inState(list[k], asked);
                tally[agents]++;
                most = Math.max(most, tally[agents]);
            }
            return most;
        }

        int tellingState(Atlas atlas, int states) {
            int best = 0;
            for (int s = 1; s < states; s++) {
                if (mostLeft(atlas, s) < mostLeft(atlas, best)) {
                    best = s;
                }
            }
            return best;
        }
    }
}
