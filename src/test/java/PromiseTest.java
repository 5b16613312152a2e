/** Each promise of the document by hand: ordinary inputs, the edges that it names, wrong inputs. */
public final class PromiseTest {
    private static final Due due = new Due();
    private static final int NONE = ProtocolAtlas.NONE;
    private static final int FAR = Integer.MAX_VALUE;
    private static final int LOW = Integer.MIN_VALUE;

    /** Worlds 0: i i, 1: i w (stands for 2), 2: w w; each has two moves. */
    private static final String TOGGLE = "agents 2 states i,w;on i to w;on w to i;";

    /** A lock: one agent at a time is let in by the home. */
    private static final String LOCK = "agents 2 states i,w,h;home free,busy;messages req,ok,rel;"
            + "on i to w sends req;on w with ok to h;on h to i sends rel;"
            + "at free with req to busy replies ok;at busy with rel to free;never 2 h;wants w h;";

    /** One way only: i to w to h, where it ends. */
    private static final String ONEWAY = "agents 3 states i,w,h;on i to w;on w to h;never 2 w and 1 h;never 3 h;"
            + "wants i h;";

    public static void main(String[] args) {
        p01NewObject();
        p02Feed();
        p03End();
        p04Table();
        p05Fault();
        p06Has();
        p07Letter();
        p08Rule();
        p09World();
        p10Agent();
        p11Leads();
        p12Way();
        p13First();
        p14Part();
        p15Returns();
        p16Starving();
        p17Uses();
        p18Without();
        p19Mend();
        p20Now();
        p21Can();
        p22Move();
        p23Jump();
        p24Chance();
        p25Undo();
        p26Seed();
        p27See();
        p28Could();
        p29Tells();
        p30Spell();
        p31Which();
        p32Image();
        p33Octet();
        p34On();
        p35Status();
        rulesOfMoves();
        due.finish();
    }

    private static void p01NewObject() {
        due.at("1 a new object");
        ProtocolAtlas x = new ProtocolAtlas();
        due.is("NONE", ProtocolAtlas.NONE, -1);
        for (int what = 0; what <= 13; what++) {
            due.is("has(" + what + ")", x.has(what), 0);
        }
        for (int what = 0; what <= 5; what++) {
            due.is("status(" + what + ")", x.status(what), 0);
        }
        due.is("letter", x.letter(0, 0, 0), NONE);
        due.is("rule", x.rule(0, 0), NONE);
        due.is("world", x.world(0, 0), NONE);
        due.is("agent", x.agent(0, 0, 0), NONE);
        due.is("leads", x.leads(0, 0, 0), NONE);
        due.is("way", x.way(0, NONE, 0), NONE);
        due.is("first", x.first(0), NONE);
        due.is("part", x.part(0, 0), NONE);
        due.is("returns", x.returns(), NONE);
        due.is("starving", x.starving(0), NONE);
        due.is("uses", x.uses(0), NONE);
        due.is("without", x.without(0, 0), NONE);
        due.is("mend", x.mend(), NONE);
        due.is("now of the home", x.now(NONE, 0), NONE);
        due.is("now of whether it is bad", x.now(NONE, 2), NONE);
        due.is("now", x.now(0, 0), NONE);
        due.is("can", x.can(0, 0), NONE);
        due.is("could", x.could(NONE), NONE);
        due.is("tells", x.tells(0), NONE);
        due.is("spell", x.spell(0), NONE);
        due.is("image", x.image(), NONE);
        due.is("octet", x.octet(0), NONE);
        due.is("fault(0)", x.fault(0), 0);
        due.is("fault(1)", x.fault(1), NONE);
    }

    private static void p02Feed() {
        due.at("2 feed");
        ProtocolAtlas x = new ProtocolAtlas();
        for (int k = 1; k <= 80; k++) {
            due.is("feed", x.feed(k, -1, FAR, LOW, 0), 20 * k);
        }
        due.is("feed beyond 1600", x.feed(0, 0, 0, 0, 0), NONE);
        due.is("status(0)", x.status(0), 1);
        due.is("end(1581)", x.end(1581), true);
        due.is("feed beyond 1600", x.feed(0, 0, 0, 0, 0), NONE);
        due.is("end(1581)", x.end(1581), true);
        due.is("end(1580)", x.end(1580), true);
        due.is("feed up to 1600", x.feed(0, 0, 0, 0, 0), 1600);
        due.is("status(0)", x.status(0), 2);
        x.end(0);
        // "agents 2 states i;  " is 20 bytes, the highest byte of each number first.
        due.is("feed", x.feed(0x6167656e, 0x74732032, 0x20737461, 0x74657320, 0x693b2020), 20);
        due.is("table()", x.table(), 1);
        due.is("the tape is empty then", x.feed(0, 0, 0, 0, 0), 20);
    }

    private static void p03End() {
        due.at("3 end");
        ProtocolAtlas x = new ProtocolAtlas();
        due.is("end(0)", x.end(0), true);
        due.is("end(1)", x.end(1), false);
        due.is("end(-1)", x.end(-1), false);
        due.is("end of the least int", x.end(LOW), false);
        due.is("status(0)", x.status(0), 3);
        x.feed(0, 0, 0, 0, 0);
        due.is("end(21)", x.end(21), false);
        due.is("end(20)", x.end(20), true);
        due.is("end(3)", x.end(3), true);
        due.is("end(4)", x.end(4), false);
        due.is("feed", x.feed(0, 0, 0, 0, 0), 23);
        due.is("status(0)", x.status(0), 5);
        // The first n bytes are those that stay.
        x.end(0);
        Due.feed(x, TOGGLE + "nonsense");
        x.end(TOGGLE.length());
        due.is("table()", x.table(), 3);
    }

    private static void p04Table() {
        due.at("4 table");
        ProtocolAtlas x = new ProtocolAtlas();
        due.is("table() of nothing", x.table(), NONE);
        due.is("fault(0)", x.fault(0), 1);
        due.is("fault(1)", x.fault(1), 0);
        due.is("status(1)", x.status(1), 1);
        Due.feed(x, TOGGLE);
        due.is("table()", x.table(), 3);
        x.move(0, 0);
        x.seed(5);
        Due.feed(x, 0, 1);
        x.see(2);
        Due.feed(x, LOCK);
        due.is("table()", x.table(), 10);
        due.is("the walk is at the first world", x.now(NONE, 1), 0);
        due.is("nothing can be undone", x.undo(), false);
        due.is("nothing is seen", x.has(13), 0);
        due.is("could", x.could(NONE), 1);
        due.is("could", x.could(0), 0);
        due.is("a rule of the latest table", x.rule(3, 0), 1);
        // The seed stays: a draw by the seed 5 of 2 moves is (1103515245 * 5 + 12345) mod 2^31 / 64 mod 2 = 1.
        x.chance(1);
        due.is("the seed stays", x.now(1, 0), 1);
        ProtocolAtlas y = Due.of(LOCK);
        y.chance(1);
        due.is("the seed is 1 at first", y.now((int) (((1103515245L + 12345) % (1L << 31)) / 64 % 2), 0), 1);
    }

    private static void p05Fault() {
        due.at("5 fault");
        ProtocolAtlas x = new ProtocolAtlas();
        due.is("fault(0)", x.fault(0), 0);
        due.is("fault(1)", x.fault(1), NONE);
        Due.feed(x, "agents 7");
        x.table();
        due.is("fault(0)", x.fault(0), 2);
        due.is("fault(1)", x.fault(1), 7);
        due.is("fault(2)", x.fault(2), NONE);
        due.is("fault(-1)", x.fault(-1), NONE);
        Due.feed(x, TOGGLE);
        x.table();
        due.is("fault(0)", x.fault(0), 0);
        due.is("fault(1)", x.fault(1), NONE);
        Due.feed(x, "agents 2 states i,i;");
        x.table();
        due.is("fault(0)", x.fault(0), 3);
        due.is("fault(1)", x.fault(1), 18);
    }

    private static void p06Has() {
        due.at("6 has");
        ProtocolAtlas x = Due.of(LOCK);
        int[] lock = {2, 3, 2, 3, 5, 9, 16, 5, 26, 0, 0, 1, 0, 0};
        for (int what = 0; what <= 13; what++) {
            due.is("has(" + what + ")", x.has(what), lock[what]);
        }
        due.is("has(14)", x.has(14), NONE);
        due.is("has(-1)", x.has(-1), NONE);
        due.is("has(far)", x.has(FAR), NONE);
        // Of i, w, h each: 10 folded worlds, 27 worlds, 54 moves, 6 deep; bad are w w h (3) and h h h; stuck h h h.
        ProtocolAtlas y = Due.of(ONEWAY);
        int[] oneway = {3, 3, 0, 0, 2, 10, 27, 6, 54, 4, 1, 10, 0, 0};
        for (int what = 0; what <= 13; what++) {
            due.is("has(" + what + ") one way", y.has(what), oneway[what]);
        }
        y.move(0, 0);
        y.jump(3);
        Due.feed(y, 0, 1, 1, 1);
        y.see(0);
        due.is("has(12)", y.has(12), 2);
        due.is("has(13)", y.has(13), 2);
    }

    private static void p07Letter() {
        due.at("7 letter");
        ProtocolAtlas x = Due.of("agents 2 states abcdef,z;home q;messages mn,o;");
        for (int k = 0; k < 6; k++) {
            due.is("letter(0, 0, " + k + ")", x.letter(0, 0, k), k + 1);
        }
        due.is("letter(0, 1, 0)", x.letter(0, 1, 0), 26);
        due.is("letter(0, 1, 1)", x.letter(0, 1, 1), 0);
        due.is("letter(0, 1, 5)", x.letter(0, 1, 5), 0);
        due.is("letter(1, 0, 0)", x.letter(1, 0, 0), 17);
        due.is("letter(2, 0, 1)", x.letter(2, 0, 1), 14);
        due.is("letter(2, 1, 0)", x.letter(2, 1, 0), 15);
        due.is("letter(0, 2, 0)", x.letter(0, 2, 0), NONE);
        due.is("letter(1, 1, 0)", x.letter(1, 1, 0), NONE);
        due.is("letter(0, -1, 0)", x.letter(0, -1, 0), NONE);
        due.is("letter(0, 0, 6)", x.letter(0, 0, 6), NONE);
        due.is("letter(0, 0, -1)", x.letter(0, 0, -1), NONE);
        due.is("letter(3, 0, 0)", x.letter(3, 0, 0), NONE);
        due.is("letter(-1, 0, 0)", x.letter(-1, 0, 0), NONE);
        due.is("letter(far)", x.letter(0, FAR, LOW), NONE);
        due.is("letter of no home", Due.of(TOGGLE).letter(1, 0, 0), NONE);
    }

    private static void p08Rule() {
        due.at("8 rule");
        ProtocolAtlas x = Due.of("agents 2 states a,b;home c,d;messages e,f;on b to a;on a with f to b sends e;"
                + "at d with f to c;at c with e to d replies f tells e some b;at c with e to c none a;");
        int[][] rules = {
            {0, 1, NONE, 0, NONE, NONE, NONE, 0},
            {0, 0, 1, 1, 0, NONE, NONE, 0},
            {1, 1, 1, 0, NONE, NONE, NONE, 0},
            {1, 0, 0, 1, 1, 0, 1, 1},
            {1, 0, 0, 0, NONE, NONE, 0, 0}};
        for (int r = 0; r < rules.length; r++) {
            for (int what = 0; what < 8; what++) {
                due.is("rule(" + r + ", " + what + ")", x.rule(r, what), rules[r][what]);
            }
            due.is("rule(" + r + ", 8)", x.rule(r, 8), NONE);
            due.is("rule(" + r + ", -1)", x.rule(r, -1), NONE);
        }
        due.is("rule(5, 0)", x.rule(5, 0), NONE);
        due.is("rule(-1, 0)", x.rule(-1, 0), NONE);
        // What an earlier table told of a row must be gone.
        Due.feed(x, "agents 2 states a,b;on b to a;on b to a;on b to a;on b to a;");
        x.table();
        due.is("rule(3, 0)", x.rule(3, 0), 0);
        due.is("rule(3, 2)", x.rule(3, 2), NONE);
        due.is("rule(3, 6)", x.rule(3, 6), NONE);
        due.is("rule(3, 7)", x.rule(3, 7), 0);
    }

    private static void p09World() {
        due.at("9 world");
        ProtocolAtlas x = Due.of(ONEWAY);
        // By depth, then agent by agent: iii, iiw, iih iww, iwh www, ihh wwh, whh, hhh.
        int[] depth = {0, 1, 2, 2, 3, 3, 4, 4, 5, 6};
        int[] times = {1, 3, 3, 3, 6, 1, 3, 3, 3, 1};
        int[] bad = {0, 0, 0, 0, 0, 0, 0, 1, 0, 1};
        int[] moves = {3, 3, 2, 3, 2, 3, 1, 2, 1, 0};
        for (int w = 0; w < 10; w++) {
            due.is("world(" + w + ", 0)", x.world(w, 0), depth[w]);
            due.is("world(" + w + ", 1)", x.world(w, 1), times[w]);
            due.is("world(" + w + ", 2)", x.world(w, 2), NONE);
            due.is("world(" + w + ", 3)", x.world(w, 3), bad[w]);
            due.is("world(" + w + ", 4)", x.world(w, 4), w == 9 ? 1 : 0);
            due.is("world(" + w + ", 5)", x.world(w, 5), moves[w]);
            due.is("world(" + w + ", 6)", x.world(w, 6), w);
            due.is("world(" + w + ", 7)", x.world(w, 7), NONE);
            due.is("world(" + w + ", -1)", x.world(w, -1), NONE);
        }
        due.is("world(10, 0)", x.world(10, 0), NONE);
        due.is("world(-1, 0)", x.world(-1, 0), NONE);
        due.is("world(600, 0)", x.world(600, 0), NONE);
        ProtocolAtlas y = Due.of(LOCK);
        due.is("world(3, 2)", y.world(3, 2), 1);
        due.is("world(0, 2)", y.world(0, 2), 0);
    }

    private static void p10Agent() {
        due.at("10 agent");
        ProtocolAtlas x = Due.of(LOCK);
        // World 3 is busy, i, w with ok in IN.
        int[][] three = {{0, NONE, NONE, NONE, 0, 0}, {1, 1, NONE, NONE, 0, 0}};
        for (int a = 0; a < 2; a++) {
            for (int what = 0; what < 4; what++) {
                due.is("agent(3, " + a + ", " + what + ")", x.agent(3, a, what), three[a][what]);
            }
        }
        // An agent that waits with the lock held is left out if the other one goes on and on.
        due.is("agent(1, 1, 5)", x.agent(1, 1, 5), 1);
        due.is("agent(1, 0, 5)", x.agent(1, 0, 5), 0);
        due.is("agent(1, 1, 4)", x.agent(1, 1, 4), 0);
        due.is("agent(0, 2, 0)", x.agent(0, 2, 0), NONE);
        due.is("agent(0, -1, 0)", x.agent(0, -1, 0), NONE);
        due.is("agent(9, 0, 0)", x.agent(9, 0, 0), NONE);
        due.is("agent(-1, 0, 0)", x.agent(-1, 0, 0), NONE);
        due.is("agent(0, 0, 6)", x.agent(0, 0, 6), NONE);
        due.is("agent(0, 0, -1)", x.agent(0, 0, -1), NONE);
        // Nobody who is in h can come out; who is in w is stuck for good, and wants i.
        ProtocolAtlas y = Due.of("agents 2 states i,w,h;on i to w;on w to h;on h to h;wants w i;");
        // Worlds: 0 ii, 1 iw, 2 ih, 3 ww, 4 wh, 5 hh.
        due.is("agent(1, 0, 4)", y.agent(1, 0, 4), 0);
        due.is("agent(1, 1, 4)", y.agent(1, 1, 4), 1);
        due.is("agent(2, 1, 4) does not want", y.agent(2, 1, 4), 0);
        due.is("agent(3, 0, 4)", y.agent(3, 0, 4), 1);
        due.is("agent(3, 1, 4)", y.agent(3, 1, 4), 1);
        due.is("agent(4, 1, 4)", y.agent(4, 1, 4), 0);
        due.is("agent(1, 1, 5) comes to the ring of h", y.agent(1, 1, 5), 1);
        // With nothing that goes on there is no ring.
        ProtocolAtlas z = Due.of("agents 2 states i,w,h;on i to w;on w to h;wants w i;");
        due.is("agent(1, 1, 4)", z.agent(1, 1, 4), 1);
        due.is("agent(1, 1, 5)", z.agent(1, 1, 5), 0);
        // By fair turns whoever can go to h by its own rule in a ring does so.
        ProtocolAtlas f = Due.of("agents 2 states i,w,h;on i to w;on w to i;on w to h;on h to i;wants w h;");
        due.is("starving(1)", f.starving(1), 0);
        due.is("starving(0)", f.starving(0), 0);
        ProtocolAtlas s = Due.of("agents 2 states i,w;on i to w;on w to i;wants i i;");
        due.is("who is there already does not starve", s.starving(0), 0);
        due.is("who is there already is not left out", s.starving(1), 0);
        due.is("without wants nobody does", Due.of(TOGGLE).agent(0, 0, 4), 0);
        due.is("without wants nobody is", Due.of(TOGGLE).agent(0, 0, 5), 0);
    }

    private static void p11Leads() {
        due.at("11 leads");
        ProtocolAtlas x = Due.of(LOCK);
        due.is("leads(0, 0, 0)", x.leads(0, 0, 0), 1);
        due.is("leads(0, 0, 1)", x.leads(0, 0, 1), 1);
        due.is("leads(0, 1, 0)", x.leads(0, 1, 0), NONE);
        due.is("leads(1, 3, 1)", x.leads(1, 3, 1), 3);
        due.is("leads(1, 3, 0)", x.leads(1, 3, 0), NONE);
        due.is("leads(1, 0, 0)", x.leads(1, 0, 0), 2);
        due.is("leads(0, 5, 0)", x.leads(0, 5, 0), NONE);
        due.is("leads(0, -1, 0)", x.leads(0, -1, 0), NONE);
        due.is("leads(0, 0, 2)", x.leads(0, 0, 2), NONE);
        due.is("leads(0, 0, -1)", x.leads(0, 0, -1), NONE);
        due.is("leads(9, 0, 0)", x.leads(9, 0, 0), NONE);
        due.is("leads(-1, 0, 0)", x.leads(-1, 0, 0), NONE);
        due.is("a move that changes nothing", Due.of("agents 2 states i;on i to i;").leads(0, 0, 1), 0);
    }

    private static void p12Way() {
        due.at("12 way");
        ProtocolAtlas x = Due.of(ONEWAY);
        // To h h h: of all ways the least, by rule, then agent: all of rule 0, then all of rule 1.
        int[] rules = {0, 0, 0, 1, 1, 1};
        int[] agents = {0, 1, 2, 0, 1, 2};
        due.is("way(9, -1, 0)", x.way(9, NONE, 0), 6);
        for (int k = 0; k < 6; k++) {
            due.is("way(9, " + k + ", 0)", x.way(9, k, 0), rules[k]);
            due.is("way(9, " + k + ", 1)", x.way(9, k, 1), agents[k]);
        }
        due.is("way(9, 6, 0)", x.way(9, 6, 0), NONE);
        due.is("way(9, -2, 0)", x.way(9, -2, 0), NONE);
        due.is("way(9, 0, 2)", x.way(9, 0, 2), NONE);
        due.is("way(9, 0, -1)", x.way(9, 0, -1), NONE);
        due.is("way(9, -1, 1)", x.way(9, NONE, 1), NONE);
        due.is("way(0, -1, 0)", x.way(0, NONE, 0), 0);
        due.is("way(0, 0, 0)", x.way(0, 0, 0), NONE);
        due.is("way(10, -1, 0)", x.way(10, NONE, 0), NONE);
        due.is("way(-1, -1, 0)", x.way(-1, NONE, 0), NONE);
        // Agents are who they are along a way, not where they would be folded: agent 0 goes twice.
        due.is("way(2, 1, 0)", x.way(2, 1, 0), 1);
        due.is("way(2, 1, 1)", x.way(2, 1, 1), 0);
    }

    private static void p13First() {
        due.at("13 first");
        ProtocolAtlas x = Due.of(ONEWAY);
        due.is("first(0)", x.first(0), 7);
        due.is("first(1)", x.first(1), 9);
        due.is("first(2)", x.first(2), NONE);
        due.is("first(3)", x.first(3), NONE);
        due.is("first(4)", x.first(4), NONE);
        due.is("first(-1)", x.first(-1), NONE);
        ProtocolAtlas y = Due.of(LOCK);
        due.is("first(0)", y.first(0), NONE);
        due.is("first(1)", y.first(1), NONE);
        due.is("first(2)", y.first(2), NONE);
        due.is("first(3)", y.first(3), 1);
        ProtocolAtlas z = Due.of("agents 2 states i,w,h;on i to w;on w to h;on h to h;wants w i;");
        due.is("first(2)", z.first(2), 1);
        due.is("first(3)", z.first(3), 1);
        ProtocolAtlas s = Due.of("agents 2 states i;never 2 i;");
        due.is("first(0)", s.first(0), 0);
        due.is("first(1)", s.first(1), 0);
    }

    private static void p14Part() {
        due.at("14 part");
        // i and w to and fro, then to h for good: worlds ii iw(1) ww ih.. are joined by how many are in h.
        ProtocolAtlas x = Due.of("agents 2 states i,w,h;on i to w;on w to i;on w to h;");
        // 0 ii, 1 iw, 2 ih, 3 ww, 4 wh, 5 hh.
        due.is("has(11)", x.has(11), 3);
        int[][] parts = {{3, 0, 0}, {2, 2, 0}, {1, 5, 1}};
        for (int p = 0; p < 3; p++) {
            for (int what = 0; what < 3; what++) {
                due.is("part(" + p + ", " + what + ")", x.part(p, what), parts[p][what]);
            }
            due.is("part(" + p + ", 3)", x.part(p, 3), NONE);
            due.is("part(" + p + ", -1)", x.part(p, -1), NONE);
        }
        int[] partOf = {0, 0, 1, 0, 1, 2};
        for (int w = 0; w < 6; w++) {
            due.is("world(" + w + ", 6)", x.world(w, 6), partOf[w]);
        }
        due.is("part(3, 0)", x.part(3, 0), NONE);
        due.is("part(-1, 0)", x.part(-1, 0), NONE);
        due.is("part of the lock", Due.of(LOCK).part(0, 0), 9);
        due.is("a move to itself leads not out", Due.of("agents 2 states i;on i to i;").part(0, 2), 1);
    }

    private static void p15Returns() {
        due.at("15 returns");
        due.is("lock", Due.of(LOCK).returns(), 16);
        due.is("one way", Due.of(ONEWAY).returns(), 1);
        due.is("to and fro, then out", Due.of("agents 2 states i,w,h;on i to w;on w to i;on w to h;").returns(), 4);
        due.is("no rules", Due.of("agents 4 states i;").returns(), 1);
    }

    private static void p16Starving() {
        due.at("16 starving");
        ProtocolAtlas x = Due.of("agents 2 states i,w,h;on i to w;on w to h;on h to h;wants w i;");
        // Of iw, wi, wh, hw one each, of ww two: six that starve; all of them come to h h, where it goes on and on.
        due.is("starving(0)", x.starving(0), 6);
        due.is("starving(1)", x.starving(1), 6);
        due.is("starving(2)", x.starving(2), NONE);
        due.is("starving(-1)", x.starving(-1), NONE);
        ProtocolAtlas y = Due.of(LOCK);
        due.is("starving(0)", y.starving(0), 0);
        due.is("starving(1)", y.starving(1), 10);
        due.is("without wants", Due.of(TOGGLE).starving(0), 0);
        due.is("without wants", Due.of(TOGGLE).starving(1), 0);
    }

    private static void p17Uses() {
        due.at("17 uses");
        ProtocolAtlas x = Due.of(ONEWAY);
        due.is("uses(0)", x.uses(0), 27);
        due.is("uses(1)", x.uses(1), 27);
        due.is("uses(2)", x.uses(2), NONE);
        due.is("uses(-1)", x.uses(-1), NONE);
        ProtocolAtlas y = Due.of("agents 3 states i,w;on w to i;on i to i;");
        due.is("a rule that is never used", y.uses(0), 0);
        due.is("a rule that changes nothing", y.uses(1), 3);
    }

    private static void p18Without() {
        due.at("18 without");
        ProtocolAtlas x = Due.of(ONEWAY);
        int[] noFirst = {1, 1, 0, 1, 3};
        // Without the second: iii, iiw, iww, www; no h at all, so all who are in i starve (3 + 2 * 3 + 1 * 3).
        int[] noSecond = {4, 8, 0, 1, 12};
        for (int what = 0; what < 5; what++) {
            due.is("without(0, " + what + ")", x.without(0, what), noFirst[what]);
            due.is("without(1, " + what + ")", x.without(1, what), noSecond[what]);
        }
        due.is("without(0, 5)", x.without(0, 5), NONE);
        due.is("without(0, -1)", x.without(0, -1), NONE);
        due.is("without(2, 0)", x.without(2, 0), NONE);
        due.is("without(-1, 0)", x.without(-1, 0), NONE);
        due.is("all is as it was", x.has(5), 10);
        due.is("again", x.without(1, 1), 8);
        ProtocolAtlas y = Due.of(LOCK);
        due.is("without(4, 0)", y.without(4, 0), 9);
        due.is("without(4, 3)", y.without(4, 3), 2);
        due.is("without(4, 4)", y.without(4, 4), 6);
        due.is("without(0, 3)", y.without(0, 3), 1);
        due.is("without(1, 0)", y.without(1, 0), 5);
        Due.feed(y, TOGGLE);
        y.table();
        due.is("of the latest table", y.without(0, 0), 1);
        due.is("of the latest table", y.without(1, 1), 4);
        due.is("of the latest table", y.without(1, 4), 0);
    }

    private static void p19Mend() {
        due.at("19 mend");
        due.is("without rules", Due.of("agents 2 states i;").mend(), NONE);
        due.is("of like ones the first", Due.of("agents 2 states i;on i to i;on i to i;").mend(), 0);
        // Bad ones count first: none without rule 0 or 1, but without rule 0 the first world is stuck.
        due.is("by bad ones", Due.of("agents 2 states i,w,h;on i to w;on w to h;on w to i;on h to i;never 2 h;"
                + "never 1 h;").mend(), 1);
        due.is("by bad ones", Due.of("agents 2 states i,w,h;on i to i;on i to w;on w to i;on w to h;on h to i;"
                + "never 1 h;never 2 w;").mend(), 1);
        // No bad ones: without rule 0 the first world is stuck, without rule 1 w w is, without rule 2 none.
        due.is("by stuck ones", Due.of("agents 2 states i,w,h;on i to w;on w to i;on h to i;").mend(), 2);
        // None bad, none stuck: h can't be come to without rule 1.
        due.is("by those who starve", Due.of("agents 2 states i,w,h;on i to i;on i to h;on i to w;on w to i;on h to i;"
                + "wants i h;").mend(), 0);
        due.is("by those who starve", Due.of("agents 2 states i,h;on i to h;on i to i;on h to i;on h to h;"
                + "wants i h;").mend(), 1);
    }

    private static void p20Now() {
        due.at("20 now");
        ProtocolAtlas x = Due.of(LOCK);
        due.is("now(0, 0)", x.now(0, 0), 0);
        due.is("now(0, 3)", x.now(0, 3), NONE);
        x.move(0, 1);
        due.is("now(1, 0)", x.now(1, 0), 1);
        due.is("now(1, 3)", x.now(1, 3), 0);
        due.is("now(-1, 0)", x.now(NONE, 0), 0);
        x.move(3, 1);
        due.is("now(1, 1)", x.now(1, 1), 1);
        due.is("now(1, 2)", x.now(1, 2), NONE);
        due.is("now(1, 3)", x.now(1, 3), NONE);
        due.is("now(-1, 0)", x.now(NONE, 0), 1);
        due.is("now(-1, 1)", x.now(NONE, 1), 3);
        due.is("now(-1, 2)", x.now(NONE, 2), 0);
        due.is("now(-1, 3)", x.now(NONE, 3), NONE);
        due.is("now(-1, -1)", x.now(NONE, -1), NONE);
        due.is("now(0, 4)", x.now(0, 4), NONE);
        due.is("now(0, -1)", x.now(0, -1), NONE);
        due.is("now(2, 0)", x.now(2, 0), NONE);
        due.is("now(-2, 0)", x.now(-2, 0), NONE);
        // Agents stay who they are: agent 0 in w and agent 1 in i is folded otherwise.
        ProtocolAtlas y = Due.of("agents 2 states i,w;on i to w;never 1 w;");
        y.move(0, 0);
        due.is("now(0, 0)", y.now(0, 0), 1);
        due.is("now(1, 0)", y.now(1, 0), 0);
        due.is("now(-1, 1)", y.now(NONE, 1), 1);
        due.is("now(-1, 2)", y.now(NONE, 2), 1);
        due.is("no home", y.now(NONE, 0), NONE);
    }

    private static void p21Can() {
        due.at("21 can");
        ProtocolAtlas x = Due.of(LOCK);
        due.is("can(0, 0)", x.can(0, 0), 1);
        due.is("can(0, 1)", x.can(0, 1), 1);
        due.is("can(1, 0)", x.can(1, 0), 0);
        due.is("can(3, 0)", x.can(3, 0), 0);
        due.is("can(5, 0)", x.can(5, 0), NONE);
        due.is("can(-1, 0)", x.can(-1, 0), NONE);
        due.is("can(0, 2)", x.can(0, 2), NONE);
        due.is("can(0, -1)", x.can(0, -1), NONE);
        due.is("nothing has changed", x.now(NONE, 1), 0);
        x.move(0, 1);
        due.is("can(3, 1)", x.can(3, 1), 1);
        due.is("can(0, 1)", x.can(0, 1), 0);
        due.is("status(2)", x.status(2), 0);
    }

    private static void p22Move() {
        due.at("22 move");
        ProtocolAtlas x = Due.of(ONEWAY);
        due.is("move(0, 2)", x.move(0, 2), 1);
        due.is("now(2, 0)", x.now(2, 0), 1);
        due.is("now(0, 0)", x.now(0, 0), 0);
        due.is("move(0, 2)", x.move(0, 2), NONE);
        due.is("move(1, 2)", x.move(1, 2), 2);
        due.is("move(2, 0)", x.move(2, 0), NONE);
        due.is("move(-1, 0)", x.move(-1, 0), NONE);
        due.is("move(0, 3)", x.move(0, 3), NONE);
        due.is("move(0, -1)", x.move(0, -1), NONE);
        due.is("status(2)", x.status(2), 5);
        due.is("has(12)", x.has(12), 2);
        ProtocolAtlas y = Due.of("agents 2 states i;on i to i;");
        due.is("one that changes nothing is one", y.move(0, 1), 0);
        due.is("has(12)", y.has(12), 1);
    }

    private static void p23Jump() {
        due.at("23 jump");
        ProtocolAtlas x = Due.of(ONEWAY);
        due.is("jump(4)", x.jump(4), true);
        due.is("now(0, 0)", x.now(0, 0), 0);
        due.is("now(1, 0)", x.now(1, 0), 1);
        due.is("now(2, 0)", x.now(2, 0), 2);
        due.is("now(-1, 1)", x.now(NONE, 1), 4);
        due.is("jump(10)", x.jump(10), false);
        due.is("jump(-1)", x.jump(-1), false);
        due.is("jump(far)", x.jump(FAR), false);
        due.is("now(-1, 1)", x.now(NONE, 1), 4);
        due.is("status(2)", x.status(2), 3);
        due.is("jump to where it is", x.jump(4), true);
        due.is("has(12)", x.has(12), 2);
        ProtocolAtlas y = Due.of(LOCK);
        y.jump(3);
        due.is("the home", y.now(NONE, 0), 1);
        due.is("IN", y.now(1, 1), 1);
    }

    private static long next(long seed) {
        return (1103515245L * seed + 12345L) % (1L << 31);
    }

    private static void p24Chance() {
        due.at("24 chance");
        ProtocolAtlas x = Due.of(ONEWAY);
        due.is("chance(0)", x.chance(0), NONE);
        due.is("chance(101)", x.chance(101), NONE);
        due.is("chance(-1)", x.chance(-1), NONE);
        due.is("status(3)", x.status(3), 3);
        due.is("has(12)", x.has(12), 0);
        // The seed 1: the first draw of the three moves of rule 0.
        due.is("chance(1)", x.chance(1), 1);
        int agent = (int) (next(1) / 64 % 3);
        due.is("the agent that moved", x.now(agent, 0), 1);
        due.is("the others stayed", x.now((agent + 1) % 3, 0) + x.now((agent + 2) % 3, 0), 0);
        due.is("six moves are all that can be", x.chance(100), 5);
        due.is("now(-1, 1)", x.now(NONE, 1), 9);
        due.is("has(12)", x.has(12), 2);
        due.is("without any", x.chance(3), 0);
        due.is("status(3)", x.status(3), 3);
        // Without any there is no draw: the seed goes on where it was, behind six draws.
        long seed = 1;
        for (int k = 0; k < 6; k++) {
            seed = next(seed);
        }
        x.jump(0);
        due.is("chance(1)", x.chance(1), 1);
        due.is("the agent that moved", x.now((int) (next(seed) / 64 % 3), 0), 1);
        // One move is drawn, too.
        ProtocolAtlas y = Due.of("agents 2 states i,w;on i to w;on w to i;");
        due.is("chance(100)", y.chance(100), 100);
        due.is("one act", y.has(12), 1);
        due.is("undo()", y.undo(), true);
        due.is("now(-1, 1)", y.now(NONE, 1), 0);
    }

    private static void p25Undo() {
        due.at("25 undo");
        ProtocolAtlas x = Due.of(TOGGLE);
        due.is("undo()", x.undo(), false);
        due.is("status(4)", x.status(4), 1);
        x.move(0, 0);
        x.move(0, 1);
        due.is("undo()", x.undo(), true);
        due.is("now(0, 0)", x.now(0, 0), 1);
        due.is("now(1, 0)", x.now(1, 0), 0);
        x.jump(2);
        x.seed(9);
        Due.feed(x, 0, 2);
        x.see(1);
        due.is("undo()", x.undo(), true);
        due.is("agents are as they were", x.now(0, 0), 1);
        due.is("SEEN stays", x.has(13), 1);
        due.is("undo()", x.undo(), true);
        due.is("now(-1, 1)", x.now(NONE, 1), 0);
        due.is("undo()", x.undo(), false);
        // The seed stays: 9, so the move is the one that it draws of two.
        x.chance(1);
        due.is("the seed stays", x.now((int) (next(9) / 64 % 2), 0), 1);
        x.undo();
        // The last 20 can be undone: behind 25 moves of agent 0 it was in w ahead of an odd one.
        for (int k = 0; k < 25; k++) {
            x.move(k % 2, 0);
        }
        due.is("has(12)", x.has(12), 20);
        for (int k = 0; k < 20; k++) {
            due.is("undo()", x.undo(), true);
        }
        due.is("undo()", x.undo(), false);
        due.is("now(0, 0) behind the first five", x.now(0, 0), 1);
    }

    private static void p26Seed() {
        due.at("26 seed");
        ProtocolAtlas x = Due.of(TOGGLE);
        due.is("seed(-1)", x.seed(-1), false);
        due.is("seed of the least int", x.seed(LOW), false);
        due.is("status(5)", x.status(5), 2);
        for (int seed : new int[] {0, 1, 2, 12345, FAR}) {
            due.is("seed(" + seed + ")", x.seed(seed), true);
            x.jump(0);
            x.chance(1);
            due.is("drawn", x.now((int) (next(seed) / 64 % 2), 0), 1);
        }
        ProtocolAtlas y = new ProtocolAtlas();
        due.is("without a table", y.seed(3), true);
        Due.feed(y, TOGGLE);
        y.table();
        y.chance(1);
        due.is("drawn", y.now((int) (next(3) / 64 % 2), 0), 1);
    }

    private static void p27See() {
        due.at("27 see");
        ProtocolAtlas x = new ProtocolAtlas();
        Due.feed(x, 0, 1);
        due.is("see(0) without a table", x.see(0), NONE);
        due.is("the tape went", x.feed(0, 0, 0, 0, 0), 20);
        x.end(0);
        Due.feed(x, TOGGLE);
        x.table();
        Due.feed(x, 0, 1, 1, 1);
        due.is("see(1)", x.see(1), 2);
        due.is("has(13)", x.has(13), 2);
        int[][] wrong = {{}, {0}, {0, 1, 1}, {2, 1}, {0, 5}, {255, 0}, {0, 1, 0, 1, 0, 1, 0, 1, 0, 1, 0, 1, 0, 1}};
        for (int[] bytes : wrong) {
            Due.feed(x, bytes);
            due.is("see(0) of " + bytes.length + " bytes", x.see(0), NONE);
            due.is("the tape went", x.feed(0, 0, 0, 0, 0), 20);
            x.end(0);
        }
        for (int n : new int[] {-1, 7, FAR, LOW}) {
            Due.feed(x, 0, 1);
            due.is("see(" + n + ")", x.see(n), NONE);
        }
        due.is("all stays", x.has(13), 2);
        due.is("all stays", x.could(0), 1);
        due.is("status(1)", x.status(1), 1 + wrong.length + 4);
        Due.feed(x, 0, 0, 1, 4, 0, 0, 0, 0, 0, 0, 0, 0);
        due.is("see(6)", x.see(6), 6);
        due.is("has(13)", x.has(13), 6);
        due.is("could(-1)", x.could(NONE), 0);
        Due.feed(x, 0, 2);
        due.is("see(0)", x.see(0), 1);
        due.is("could(-1)", x.could(NONE), 1);
    }

    private static void p28Could() {
        due.at("28 could");
        ProtocolAtlas x = Due.of(ONEWAY);
        due.is("nothing is seen", x.could(NONE), 1);
        due.is("could(0)", x.could(0), 0);
        due.is("could(1)", x.could(1), NONE);
        due.is("could(-2)", x.could(-2), NONE);
        // Behind just two moves: iih or iww; with one in h only the first.
        Due.feed(x, 0, 1);
        x.see(2);
        due.is("could(-1)", x.could(NONE), 1);
        due.is("could(0)", x.could(0), 3);
        Due.feed(x, 2, 1);
        x.see(2);
        due.is("could(0)", x.could(0), 2);
        Due.feed(x, 0, 0);
        x.see(4);
        // Behind four moves without an i: wwh alone (whh takes five).
        due.is("could(-1)", x.could(NONE), 1);
        due.is("could(0)", x.could(0), 7);
        Due.feed(x, 2, 1);
        x.see(4);
        due.is("behind four one in h", x.could(0), 7);
        // By the walk as it is then.
        x.jump(1);
        Due.feed(x, 2, 1);
        x.see(2);
        due.is("could(-1)", x.could(NONE), 1);
        due.is("could(0)", x.could(0), 4);
        x.undo();
        due.is("could(-1)", x.could(NONE), 1);
        due.is("could(0)", x.could(0), 2);
        x.jump(9);
        due.is("no two moves can be", x.could(NONE), 0);
        due.is("could(0)", x.could(0), NONE);
        ProtocolAtlas y = Due.of(TOGGLE);
        Due.feed(y, 0, 2, 0, 2);
        y.see(6);
        due.is("could(-1)", y.could(NONE), 1);
        Due.feed(y, 0, 1);
        y.see(6);
        due.is("just so many moves, not fewer", y.could(NONE), 0);
        Due.feed(y, 0, 1, 0, 2);
        y.see(1);
        due.is("all rows must be so", y.could(NONE), 0);
    }

    private static void p29Tells() {
        due.at("29 tells");
        ProtocolAtlas x = Due.of(ONEWAY);
        due.is("tells(0)", x.tells(0), 0);
        due.is("tells(1)", x.tells(1), 1);
        due.is("tells(2)", x.tells(2), NONE);
        due.is("tells(-1)", x.tells(-1), NONE);
        // Four agents in h there can't be.
        x.jump(3);
        Due.feed(x, 2, 4);
        x.see(2);
        due.is("without any", x.tells(0), NONE);
        due.is("without any", x.tells(1), NONE);
        ProtocolAtlas y = Due.of("agents 2 states i,w,h;on i to w;on i to h;on h to h;");
        // Worlds: 0 ii, 1 iw, 2 ih, 3 ww, 4 wh, 5 hh. Behind two moves: 2 (by h to h), 3, 4, 5.
        Due.feed(y, 0, 0);
        y.see(2);
        due.is("could(-1)", y.could(NONE), 3);
        // i: 0 in all three; w: 2, 1, 0; h: 0, 1, 2.
        due.is("tells(0)", y.tells(0), 1);
        due.is("tells(1)", y.tells(1), 1);
        Due.feed(y, 1, 0);
        y.see(2);
        // ih and hh are left: by i one each.
        due.is("could(-1)", y.could(NONE), 2);
        due.is("tells(0)", y.tells(0), 0);
        due.is("tells(1)", y.tells(1), 1);
        ProtocolAtlas z = Due.of("agents 2 states i,w;messages m;on i to i sends m;on i to w;");
        // Behind one move: i i!m, i w: told apart by i, or by w; of like ones the first.
        Due.feed(z, 0, 2);
        z.see(1);
        due.is("tells(0)", z.tells(0), 0);
        due.is("tells(1)", z.tells(1), 1);
        ProtocolAtlas u = Due.of("agents 2 states i;messages m,n;on i to i sends m;on i to i sends n;");
        Due.feed(u, 0, 2);
        u.see(1);
        due.is("two that no number tells apart", u.tells(1), 2);
    }

    private static void p30Spell() {
        due.at("30 spell");
        ProtocolAtlas x = Due.of("agents 2 states idle,w;home hq;messages m,no;on idle to w sends no;"
                + "at hq with no to hq replies no tells m;");
        String[] texts = {"hq idle idle", "hq idle w!no", "hq idle<m> w<no>", "hq w!no w!no"};
        for (int w = 0; w < 4; w++) {
            due.is("spell(" + w + ")", x.spell(w), texts[w].length());
            due.is("octets " + w + " " + Due.textOf(Due.written(x, texts[w].length())),
                    Due.textOf(Due.written(x, texts[w].length())).equals(texts[w]), true);
        }
        boolean two = false;
        for (int w = 0; w < x.has(5); w++) {
            two |= Due.textOf(Due.written(x, x.spell(w))).equals("hq w<m,no> w<no,m>");
        }
        due.is("two in IN", two, true);
        due.is("spell behind", x.spell(x.has(5)), NONE);
        due.is("spell(-1)", x.spell(-1), NONE);
        due.is("what was written stays", x.octet(0), 'h');
        ProtocolAtlas y = Due.of(TOGGLE);
        due.is("spell(0)", y.spell(0), 5);
        due.is("no home", y.octet(0), '-');
        due.is("status(5)", y.status(5), 0);
    }

    private static void p31Which() {
        due.at("31 which");
        ProtocolAtlas x = Due.of(LOCK);
        String[] good = {"free i i", "free i w!req", "free w!req w!req", "busy i w<ok>"};
        for (int w = 0; w < good.length; w++) {
            Due.feed(x, good[w]);
            due.is("which() of " + good[w], x.which(), w);
            due.is("the tape went", x.feed(0, 0, 0, 0, 0), 20);
            x.end(0);
        }
        String[] bad = {"", "free", "xree i i", "free i", "free i j", "free i i ", " free i i", "free  i i", "free w!req i", "busy i i",
            "free i i i", "free i x", "- i i", "free i w!req;", "busy i w< ok>", "busy i w<ok,>"};
        for (String text : bad) {
            Due.feed(x, text);
            due.is("which() of " + text, x.which(), NONE);
            due.is("the tape went", x.feed(0, 0, 0, 0, 0), 20);
            x.end(0);
        }
        due.is("status(5)", x.status(5), bad.length);
        due.is("the walk stays", x.now(NONE, 1), 0);
        ProtocolAtlas y = new ProtocolAtlas();
        Due.feed(y, "- i i");
        due.is("without a table", y.which(), NONE);
        due.is("status(5)", y.status(5), 1);
        due.is("the tape went", y.feed(0, 0, 0, 0, 0), 20);
    }

    private static void p32Image() {
        due.at("32 image");
        ProtocolAtlas x = Due.of(LOCK);
        x.move(0, 0);
        x.move(0, 1);
        x.move(3, 1);
        int[] bytes = {1, 1, 255, 255, 0, 1, 1, 255, 255, 0};
        int check = 193;
        for (int k = 0; k < 9; k++) {
            check = (5 * check + bytes[k]) % 251;
        }
        bytes[9] = check;
        due.is("image()", x.image(), 10);
        for (int k = 0; k < 10; k++) {
            due.is("octet(" + k + ")", x.octet(k), bytes[k]);
        }
        ProtocolAtlas y = Due.of("agents 4 states i;");
        due.is("image()", y.image(), 18);
        due.is("no home", y.octet(0), 255);
        due.is("STATE", y.octet(13), 0);
        due.is("nothing in OUT", y.octet(16), 255);
        due.is("without a table", new ProtocolAtlas().image(), NONE);
    }

    private static void p33Octet() {
        due.at("33 octet");
        ProtocolAtlas x = Due.of(TOGGLE);
        due.is("octet(0)", x.octet(0), NONE);
        x.image();
        due.is("octet(9)", x.octet(9) >= 0, true);
        due.is("octet(10)", x.octet(10), NONE);
        due.is("octet(-1)", x.octet(-1), NONE);
        due.is("octet(far)", x.octet(FAR), NONE);
        x.spell(0);
        due.is("octet(4)", x.octet(4), 'i');
        due.is("octet(5)", x.octet(5), NONE);
        Due.feed(x, "nonsense");
        x.which();
        due.is("which() writes nothing", x.octet(4), 'i');
    }

    private static void p34On() {
        due.at("34 on");
        ProtocolAtlas x = Due.of(LOCK);
        x.move(0, 0);
        x.move(3, 0);
        int[] image = Due.written(x, x.image());
        ProtocolAtlas y = Due.of(LOCK);
        y.jump(1);
        Due.feed(y, image);
        due.is("on()", y.on(), true);
        due.is("now(-1, 1)", y.now(NONE, 1), 3);
        due.is("agent 0 waits", y.now(0, 0), 1);
        due.is("agent 0 has ok", y.now(0, 1), 1);
        due.is("agent 1 does not", y.now(1, 0), 0);
        due.is("the home", y.now(NONE, 0), 1);
        due.is("nothing can be undone", y.has(12), 0);
        due.is("the tape went", y.feed(0, 0, 0, 0, 0), 20);
        y.end(0);
        y.move(1, 0);
        int[][] wrong = {
            {}, {1}, imageOf(1, 0, 255, 255, 255, 0, 255, 255, 255),
            imageOf(0, 3, 255, 255, 255, 0, 255, 255, 255), imageOf(0, 0, 3, 255, 255, 0, 255, 255, 255),
            imageOf(0, 0, 255, 255, 254, 0, 255, 255, 255), imageOf(255, 0, 255, 255, 255, 0, 255, 255, 255),
            imageOf(2, 0, 255, 255, 255, 0, 255, 255, 255), imageOf(0, 255, 255, 255, 255, 0, 255, 255, 255),
            imageOf(1, 1, 255, 1, 255, 0, 255, 255, 255), imageOf(0, 0, 255, 255, 255),
            imageOf(1, 1, 0, 6, 255, 0, 255, 255, 255), imageOf(1, 0, 8, 255, 255, 0, 255, 255, 255),
            imageOf(1, 1, 1, 255, 255, 0, 255, 254, 255), imageOf(0, 1, 255, 255, 255, 6, 255, 255, 255),
            imageOf(0, 0, 255, 255, 255, 6, 255, 255, 255), imageOf(0, 0, 255, 255, 255, 0, 255, 255, 6),
            imageOf(0, 0, 255, 255, 255, 0, 255, 255, 255, 0, 255, 255, 255)};
        for (int[] bytes : wrong) {
            Due.feed(y, bytes);
            due.is("on() of " + java.util.Arrays.toString(bytes), y.on(), false);
            due.is("the tape went", y.feed(0, 0, 0, 0, 0), 20);
            y.end(0);
        }
        int[] spoilt = image.clone();
        spoilt[9] ^= 1;
        Due.feed(y, spoilt);
        due.is("on() of a wrong check", y.on(), false);
        due.is("status(5)", y.status(5), wrong.length + 1);
        due.is("all stays", y.now(0, 0), 2);
        due.is("all stays", y.has(12), 1);
        Due.feed(y, imageOf(0, 0, 255, 255, 255, 0, 255, 255, 255));
        due.is("on() of the first world", y.on(), true);
        Due.feed(y, 0, 2);
        y.see(0);
        Due.feed(y, image);
        y.on();
        due.is("SEEN stays", y.has(13), 1);
        ProtocolAtlas z = new ProtocolAtlas();
        Due.feed(z, image);
        due.is("without a table", z.on(), false);
        due.is("the tape went", z.feed(0, 0, 0, 0, 0), 20);
        ProtocolAtlas u = Due.of(TOGGLE);
        Due.feed(u, imageOf(255, 1, 255, 255, 255, 0, 255, 255, 255));
        due.is("no home", u.on(), true);
        due.is("now(0, 0)", u.now(0, 0), 1);
        Due.feed(u, imageOf(0, 1, 255, 255, 255, 0, 255, 255, 255));
        due.is("a home where there is none", u.on(), false);
    }

    private static int[] imageOf(int... bytes) {
        int[] image = java.util.Arrays.copyOf(bytes, bytes.length + 1);
        int check = 193;
        for (int b : bytes) {
            check = (5 * check + b) % 251;
        }
        image[bytes.length] = check;
        return image;
    }

    private static void p35Status() {
        due.at("35 status");
        ProtocolAtlas x = new ProtocolAtlas();
        x.end(-1);
        x.table();
        x.see(0);
        x.move(0, 0);
        x.jump(0);
        x.jump(1);
        x.chance(1);
        x.undo();
        x.seed(-3);
        x.which();
        x.on();
        x.on();
        int[] refused = {1, 2, 3, 1, 1, 4};
        for (int what = 0; what < 6; what++) {
            due.is("status(" + what + ")", x.status(what), refused[what]);
        }
        due.is("status(6)", x.status(6), NONE);
        due.is("status(-1)", x.status(-1), NONE);
        Due.feed(x, TOGGLE);
        x.table();
        for (int what = 0; what < 6; what++) {
            due.is("a table leaves status(" + what + ")", x.status(what), refused[what]);
        }
    }

    /** What a move needs and what it does, told in II. */
    private static void rulesOfMoves() {
        due.at("moves: sending only if OUT has none");
        ProtocolAtlas x = Due.of("agents 2 states i,w;home s;messages m,n;on i to w sends m;on w to i sends n;"
                + "at s with m to s replies n;at s with n to s replies m tells n;on w with n to w;on i with m to i;");
        x.move(0, 0);
        due.is("can(1, 0)", x.can(1, 0), 0);
        x.move(2, 0);
        due.is("can(1, 0)", x.can(1, 0), 1);
        due.is("can(4, 0)", x.can(4, 0), 1);
        x.move(1, 0);
        x.move(3, 0);
        due.is("IN holds what came, in order", x.now(0, 1), 1);
        due.is("IN holds what came, in order", x.now(0, 2), 0);
        due.is("the other one was told", x.now(1, 1), 1);
        due.is("order kept: m came second", x.can(5, 0), 0);
        x.move(0, 0);
        due.is("no room in IN", x.can(2, 0), 0);
        due.at("moves: order loose");
        ProtocolAtlas y = Due.of("agents 2 states i,w;home s;messages m,n;order loose;on i to w sends m;"
                + "on w to i sends n;at s with m to s replies n;at s with n to s replies m tells n;on w with n to w;"
                + "on i with m to i;");
        y.move(0, 0);
        y.move(2, 0);
        y.move(1, 0);
        y.move(3, 0);
        due.is("the lesser one is first", y.now(0, 1), 0);
        due.is("the lesser one is first", y.now(0, 2), 1);
        due.is("can(5, 0)", y.can(5, 0), 1);
        y.move(5, 0);
        due.is("the other one is left", y.now(0, 1), 1);
        due.is("the other one is left", y.now(0, 2), NONE);
        due.at("moves: the last order counts");
        ProtocolAtlas k = Due.of("agents 2 states i;home s;messages m,n;order loose;order kept;on i to i sends m;"
                + "on i to i sends n;at s with m to s replies m;at s with n to s replies n;on i with m to i;");
        k.move(1, 0);
        k.move(3, 0);
        k.move(0, 0);
        k.move(2, 0);
        due.is("kept", k.now(0, 1), 1);
        due.is("kept", k.can(4, 0), 0);
        due.at("moves: none and some are of others");
        ProtocolAtlas n = Due.of("agents 3 states i,w;home s;messages m;on i to w sends m;at s with m to s none w;"
                + "at s with m to s some w;at s with m to s none i;");
        n.move(0, 0);
        due.is("none w: oneself does not count", n.can(1, 0), 1);
        due.is("some w: oneself does not count", n.can(2, 0), 0);
        n.move(0, 1);
        due.is("none w", n.can(1, 0), 0);
        due.is("some w", n.can(2, 0), 1);
        due.is("none i", n.can(3, 0), 0);
        n.move(0, 2);
        due.is("none i", n.can(3, 0), 1);
        due.at("moves: all others are told, if all have room");
        ProtocolAtlas t = Due.of("agents 3 states i;home s,t;messages m;on i to i sends m;at s with m to t tells m;"
                + "at t with m to s tells m;");
        t.move(0, 0);
        due.is("can(2, 0)", t.can(2, 0), 0);
        t.move(1, 0);
        due.is("the home", t.now(NONE, 0), 1);
        due.is("not oneself", t.now(0, 1), NONE);
        due.is("each other", t.now(1, 1) + t.now(2, 1), 0);
        t.move(0, 1);
        t.move(2, 1);
        due.is("agent 2 has two", t.now(2, 2), 0);
        t.move(0, 0);
        due.is("no room", t.can(1, 0), 0);
        t.move(0, 2);
        due.is("room: it need not have room itself", t.can(1, 2), 1);
    }
}
