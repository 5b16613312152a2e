import java.util.ArrayList;
import java.util.List;
import java.util.function.Consumer;
import java.util.function.ToIntFunction;

/**
 * What each call may change and what stays: every call is made in many states, and all that its promise does not tell
 * of is compared with a twin for which it was not made. A refused call is counted once, where it is told.
 */
public final class EdgeStayTest {
    private static final Due due = new Due();
    private static final int NONE = ProtocolAtlas.NONE;
    private static final int FAR = Integer.MAX_VALUE;
    private static final int LOW = Integer.MIN_VALUE;

    private static final String LOCK = "agents 2 states i,w,h;home free,busy;messages req,ok,rel;"
            + "on i to w sends req;on w with ok to h;on h to i sends rel;"
            + "at free with req to busy replies ok;at busy with rel to free;never 2 h;wants w h;";
    private static final String ONEWAY = "agents 3 states i,w,h;on i to w;on w to h;never 2 w and 1 h;wants i h;";
    private static final String TURNS = "agents 4 states a,b;on a to b;on b to a;on a to a;";

    /** What can be asked of an object; some of these questions spoil it, so each is asked of one of its own. */
    private static final int TAPE = 1;
    private static final int WRITTEN = 2;
    private static final int WALK = 4;
    private static final int ACTS = 8;
    private static final int SEED = 16;
    private static final int SEEN = 32;
    private static final int TABLE = 64;
    private static final int FAULT = 128;
    private static final int[] ASPECTS = {TAPE, WRITTEN, WALK, ACTS, SEED, SEEN, TABLE, FAULT};
    private static final String[] NAMES = {"the tape", "what was written", "the walk", "the acts", "the seed",
        "what was seen", "the table", "the fault"};

    private static final class Call {
        final String name;
        /** What it may change, and what if it answers NONE. */
        final int changes;
        final int refusedChanges;
        /** Where it is counted if it is refused; NONE, if it never is. */
        final int counter;
        final ToIntFunction<ProtocolAtlas> made;

        Call(String name, int changes, int refusedChanges, int counter, ToIntFunction<ProtocolAtlas> made) {
            this.name = name;
            this.changes = changes;
            this.refusedChanges = refusedChanges;
            this.counter = counter;
            this.made = made;
        }
    }

    private static final class State {
        final String name;
        final Consumer<ProtocolAtlas> brought;

        State(String name, Consumer<ProtocolAtlas> brought) {
            this.name = name;
            this.brought = brought;
        }

        ProtocolAtlas make() {
            ProtocolAtlas x = new ProtocolAtlas();
            brought.accept(x);
            return x;
        }
    }

    public static void main(String[] args) {
        List<Call> calls = calls();
        for (State state : states()) {
            String[] twin = new String[ASPECTS.length];
            for (int k = 0; k < ASPECTS.length; k++) {
                twin[k] = shown(state.make(), ASPECTS[k]);
            }
            for (Call call : calls) {
                due.at(state.name);
                compare(state, call, twin);
            }
        }
        actsLieOneOnAnother();
        tapeGoesOrStays();
        due.finish();
    }

    private static void compare(State state, Call call, String[] twin) {
        ProtocolAtlas x = state.make();
        int[] counted = counted(x);
        boolean none = call.made.applyAsInt(x) == NONE;
        boolean refused = none && call.counter != NONE;
        int[] then = counted(x);
        for (int what = 0; what < 6; what++) {
            int more = refused && what == call.counter ? 1 : 0;
            due.is("status(" + what + ") behind " + call.name, then[what], counted[what] + more);
        }
        int may = none ? call.refusedChanges : call.changes;
        for (int k = 0; k < ASPECTS.length; k++) {
            if ((may & ASPECTS[k]) == 0) {
                ProtocolAtlas y = state.make();
                call.made.applyAsInt(y);
                String got = shown(y, ASPECTS[k]);
                due.is(NAMES[k] + " behind " + call.name + ": \"" + got + "\" and not \"" + twin[k] + "\"",
                        got.equals(twin[k]), true);
            }
        }
    }

    private static int[] counted(ProtocolAtlas x) {
        int[] all = new int[6];
        for (int what = 0; what < 6; what++) {
            all[what] = x.status(what);
        }
        return all;
    }

    private static String shown(ProtocolAtlas x, int aspect) {
        switch (aspect) {
            case TAPE: return tape(x);
            case WRITTEN: return written(x);
            case WALK: return walk(x);
            case ACTS: return acts(x);
            case SEED: return drawn(x);
            case SEEN: return seen(x);
            case TABLE: return told(x);
            default: return x.fault(0) + " " + x.fault(1);
        }
    }

    /** How long the tape is, and what it is as a table, once 600 worlds are not in the way. */
    private static String tape(ProtocolAtlas x) {
        int length = 1600;
        while (length > 0 && !x.end(length)) {
            length--;
        }
        return length + " " + x.table() + " " + x.fault(0) + " " + x.fault(1) + " " + told(x);
    }

    private static String written(ProtocolAtlas x) {
        StringBuilder all = new StringBuilder();
        for (int k = 0; x.octet(k) != NONE; k++) {
            all.append(x.octet(k)).append(' ');
        }
        return all.toString();
    }

    private static String walk(ProtocolAtlas x) {
        StringBuilder all = new StringBuilder();
        for (int a = NONE; a < x.has(0); a++) {
            for (int what = 0; what < 4; what++) {
                all.append(x.now(a, what)).append(' ');
            }
        }
        return all.toString();
    }

    /** Where undo() leads, again and again; not where it starts from. */
    private static String acts(ProtocolAtlas x) {
        StringBuilder all = new StringBuilder();
        all.append(x.has(12));
        for (int k = 0; k < 30 && x.undo(); k++) {
            all.append(" : ").append(walk(x));
        }
        return all.toString();
    }

    /** By many draws of unlike numbers from the first world of a table of its own. */
    private static String drawn(ProtocolAtlas x) {
        x.end(0);
        Due.feed(x, TURNS);
        x.table();
        StringBuilder all = new StringBuilder();
        for (int k = 0; k < 8; k++) {
            x.chance(1);
            all.append(walk(x));
        }
        return all.toString();
    }

    /** By what could be from each of the worlds, as the walk may be elsewhere. */
    private static String seen(ProtocolAtlas x) {
        StringBuilder all = new StringBuilder();
        all.append(x.has(13));
        for (int w = 0; w < x.has(5); w++) {
            x.jump(w);
            all.append(" :");
            for (int k = NONE; k < x.has(5); k++) {
                all.append(' ').append(x.could(k));
            }
            all.append(" tells ").append(x.tells(0)).append(' ').append(x.tells(1));
        }
        return all.toString();
    }

    private static String told(ProtocolAtlas x) {
        StringBuilder all = new StringBuilder();
        for (int what = 0; what < 12; what++) {
            all.append(x.has(what)).append(' ');
        }
        for (int which = 0; which < 6; which++) {
            all.append(x.letter(0, which, 0)).append(' ').append(x.letter(1, which, 0)).append(' ')
                    .append(x.letter(2, which, 0)).append(' ');
        }
        for (int r = 0; r < x.has(4); r++) {
            for (int what = 0; what < 8; what++) {
                all.append(x.rule(r, what)).append(' ');
            }
            all.append(x.uses(r)).append(' ').append(x.without(r, 1)).append(' ').append(x.without(r, 4)).append(' ');
        }
        for (int w = 0; w < x.has(5); w++) {
            all.append(x.world(w, 0)).append(' ').append(x.world(w, 5)).append(' ').append(x.way(w, 0, 0)).append(' ');
        }
        all.append(x.mend()).append(' ').append(x.returns()).append(' ').append(x.first(0)).append(' ')
                .append(x.starving(0)).append(' ').append(x.starving(1));
        return all.toString();
    }

    private static int asNumber(boolean so) {
        return so ? 1 : NONE;
    }

    private static List<Call> calls() {
        List<Call> list = new ArrayList<>();
        list.add(new Call("feed()", TAPE, 0, 0, x -> x.feed(1, 2, 3, 4, 5)));
        for (int n : new int[] {LOW, -1, 0, 1, 20, 1600, 1601, FAR}) {
            list.add(new Call("end(" + n + ")", TAPE, 0, 0, x -> asNumber(x.end(n))));
        }
        list.add(new Call("table()", TAPE | WALK | ACTS | SEEN | TABLE | FAULT, TAPE | FAULT, 1, x -> x.table()));
        for (int k : new int[] {NONE, 0, 1, 2, 4, 8, 99}) {
            list.add(new Call("jump(" + k + ")", WALK | ACTS, 0, 2, x -> asNumber(x.jump(k))));
            list.add(new Call("spell(" + k + ")", WRITTEN, 0, NONE, x -> x.spell(k)));
            if (k != 99) {
                list.add(new Call("move(" + k + ", 0)", WALK | ACTS, 0, 2, x -> x.move(k, 0)));
                list.add(new Call("move(0, " + k + ")", WALK | ACTS, 0, 2, x -> x.move(0, k)));
            }
        }
        for (int n : new int[] {LOW, -1, 0, 1, 3, 100, 101, FAR}) {
            list.add(new Call("chance(" + n + ")", WALK | ACTS | SEED, 0, 3, x -> x.chance(n)));
            list.add(new Call("seed(" + n + ")", SEED, 0, 5, x -> asNumber(x.seed(n))));
            list.add(new Call("see(" + n + ")", TAPE | SEEN, TAPE, 1, x -> x.see(n)));
        }
        list.add(new Call("undo()", WALK | ACTS, 0, 4, x -> asNumber(x.undo())));
        list.add(new Call("which()", TAPE, TAPE, 5, x -> x.which()));
        list.add(new Call("image()", WRITTEN, 0, NONE, x -> x.image()));
        list.add(new Call("on()", TAPE | WALK | ACTS, TAPE, 5, x -> asNumber(x.on())));
        list.addAll(questions());
        return list;
    }

    /** The calls that only ask: nothing may be otherwise behind them, and none of them is counted. */
    private static List<Call> questions() {
        List<Call> list = new ArrayList<>();
        for (int k : new int[] {LOW, NONE, 0, 1, 5, 13, FAR}) {
            list.add(asked("fault, has, first, starving, uses, could, tells, octet, status " + k, x -> x.fault(k) + x.has(k)
                    + x.first(k) + x.starving(k) + x.uses(k) + x.could(k) + x.tells(k) + x.octet(k) + x.status(k)));
            list.add(asked("letter, rule, world, agent " + k, x -> x.letter(k, 0, 0) + x.letter(0, k, 0) + x.letter(0, 0, k)
                    + x.rule(k, 0) + x.rule(0, k) + x.world(k, 0) + x.world(0, k) + x.agent(k, 0, 0) + x.agent(0, k, 0)
                    + x.agent(0, 0, k)));
            list.add(asked("leads, way, part, without " + k, x -> x.leads(k, 0, 0) + x.leads(0, k, 0) + x.leads(0, 0, k)
                    + x.way(k, NONE, 0) + x.way(1, k, 0) + x.way(1, 0, k) + x.part(k, 0) + x.part(0, k) + x.without(k, 0)
                    + x.without(0, k)));
            list.add(asked("now, can " + k, x -> x.now(k, 0) + x.now(0, k) + x.now(NONE, k) + x.can(k, 0) + x.can(0, k)));
        }
        list.add(asked("returns, mend", x -> x.returns() + x.mend()));
        return list;
    }

    private static Call asked(String name, ToIntFunction<ProtocolAtlas> made) {
        return new Call(name, 0, 0, NONE, made);
    }

    private static List<State> states() {
        List<State> bare = new ArrayList<>();
        bare.add(new State("new", x -> x.end(0)));
        bare.add(new State("new, all refused", EdgeStayTest::refuseAll));
        bare.add(new State("a table", x -> table(x, LOCK)));
        bare.add(new State("in the midst", EdgeStayTest::inTheMidst));
        bare.add(new State("stuck, twenty acts", EdgeStayTest::stuck));
        bare.add(new State("behind a fault", x -> {
            inTheMidst(x);
            table(x, "agents 2 states i,w;on i to q;");
        }));
        List<State> all = new ArrayList<>();
        for (State s : bare) {
            all.add(s);
            all.add(with(s, "a table on the tape", x -> Due.feed(x, ONEWAY)));
            all.add(with(s, "a fault on the tape", x -> Due.feed(x, LOCK + "wants i w;")));
            all.add(with(s, "an image on the tape", EdgeStayTest::feedImage));
            all.add(with(s, "a text on the tape", x -> Due.feed(x, "free i w!req")));
            all.add(with(s, "rows on the tape", x -> Due.feed(x, 0, 1, 1, 1)));
            all.add(with(s, "a full tape", x -> Due.feed(x, " ".repeat(1600 - ONEWAY.length()) + ONEWAY)));
        }
        return all;
    }

    private static State with(State s, String name, Consumer<ProtocolAtlas> more) {
        return new State(s.name + ", " + name, s.brought.andThen(more));
    }

    private static void table(ProtocolAtlas x, String text) {
        Due.feed(x, text);
        x.table();
    }

    private static void refuseAll(ProtocolAtlas x) {
        x.end(1);
        x.table();
        x.see(9);
        x.jump(0);
        x.chance(0);
        x.undo();
        x.seed(-1);
        x.which();
        x.on();
    }

    private static void inTheMidst(ProtocolAtlas x) {
        table(x, LOCK);
        x.seed(77);
        x.chance(2);
        x.jump(0);
        x.move(0, 1);
        x.move(3, 1);
        Due.feed(x, 1, 1);
        x.see(2);
        x.spell(3);
    }

    private static void stuck(ProtocolAtlas x) {
        table(x, ONEWAY);
        x.seed(5);
        for (int k = 0; k < 19; k++) {
            x.jump(k % 5);
        }
        x.chance(100);
        Due.feed(x, 0, 0, 1, 0, 2, 3, 0, 0, 1, 0, 2, 3);
        x.see(0);
        x.image();
    }

    /** The image of the world behind rule 0 by the last agent of a lock. */
    private static void feedImage(ProtocolAtlas x) {
        ProtocolAtlas y = Due.of(LOCK);
        y.move(0, 1);
        Due.feed(x, Due.written(y, y.image()));
    }

    private static void actsLieOneOnAnother() {
        due.at("25 The latest ACT is undone, those ahead of it stay");
        List<Call> list = new ArrayList<>();
        list.add(new Call("move(0, 0)", 0, 0, 2, x -> x.move(0, 0)));
        list.add(new Call("jump(4)", 0, 0, 2, x -> asNumber(x.jump(4))));
        list.add(new Call("jump() to where it is", 0, 0, 2, x -> asNumber(x.jump(x.now(NONE, 1)))));
        list.add(new Call("chance(1)", 0, 0, 3, x -> x.chance(1)));
        list.add(new Call("chance(100)", 0, 0, 3, x -> x.chance(100)));
        for (State state : states()) {
            for (Call call : list) {
                ProtocolAtlas x = state.make();
                String ahead = walk(x);
                String[] twin = acts(state.make()).split(" : ");
                if (call.made.applyAsInt(x) == NONE) {
                    continue;
                }
                String[] then = acts(x).split(" : ");
                String name = state.name + ", " + call.name + ": ";
                int more = twin.length == 21 ? 0 : 1;
                due.is(name + "how many", then.length, twin.length + more);
                due.is(name + "has(12)", Integer.parseInt(then[0]), then.length - 1);
                due.is(name + "where it was", then[1].equals(ahead), true);
                for (int k = 2; k < then.length; k++) {
                    due.is(name + "the acts ahead of it, " + k, then[k].equals(twin[k - 1]), true);
                }
            }
        }
    }

    private static void tapeGoesOrStays() {
        due.at("4, 27, 31, 34 The tape (it goes)");
        for (State state : states()) {
            for (int which = 0; which < 4; which++) {
                ProtocolAtlas x = state.make();
                int got = which == 0 ? x.table() : which == 1 ? x.see(1) : which == 2 ? x.which() : asNumber(x.on());
                due.is(state.name + ", call " + which + " answered " + got + ", the tape is empty",
                        x.feed(0, 0, 0, 0, 0), 20);
            }
        }
    }
}
