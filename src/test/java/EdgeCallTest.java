import java.util.function.BooleanSupplier;

/** Promises 1 to 35, sentence by sentence: too small, too large, empty, full, refused, and what stays then. */
public final class EdgeCallTest {
    private static final Due due = new Due();
    private static final int NONE = ProtocolAtlas.NONE;
    private static final int FAR = Integer.MAX_VALUE;
    private static final int LOW = Integer.MIN_VALUE;

    /** Numbers that are never a world, a rule, an agent or a what. */
    private static final int[] NEVER = {LOW, LOW + 1, -1600, -601, -256, -17, -5, -4, -3, -2, 600, 601, 1600, 2400, 4096,
        65536, 1 << 20, 1 << 24, 1 << 28, 1 << 30, FAR - 1, FAR};
    private static final int[] ANY = {LOW, -2, -1, 0, 1, 2, 3, 4, 5, 6, 13, 14, 600, FAR};

    /** Worlds 0: i i, 1: i w (stands for 2), 2: w w; each has two moves. */
    private static final String TOGGLE = "agents 2 states i,w;on i to w;on w to i;";

    /** Worlds by their numbers: iii, iiw, iih iww, iwh www, ihh wwh, whh, hhh. */
    private static final String ONEWAY = "agents 3 states i,w,h;on i to w;on w to h;never 2 w and 1 h;never 3 h;"
            + "wants i h;";

    /** A lock: 9 worlds, 5 rules, one agent at a time is let in by the home. */
    private static final String LOCK = "agents 2 states i,w,h;home free,busy;messages req,ok,rel;"
            + "on i to w sends req;on w with ok to h;on h to i sends rel;"
            + "at free with req to busy replies ok;at busy with rel to free;never 2 h;wants w h;";

    public static void main(String[] args) {
        p01NoTable();
        p01NothingIsRefusedYet();
        p02HighestFirst();
        p02BehindThoseOnTheTape();
        p02MoreThan1600();
        p02RefusedLeavesTheTape();
        p03FirstBytesAlone();
        p03NotSoMany();
        p03BelowZero();
        p04WithoutAStatement();
        p04RefusedAllStays();
        p04TapeGoes();
        p04WithoutAFault();
        p04TheSeedStays();
        p05AheadOfAny();
        p05OfTheLatest();
        p05AnotherWhat();
        p06WithoutATable();
        p06Others();
        p06EachOfThem();
        p06Full();
        p06BehindALargerTable();
        p07Letters();
        p07NoneSuch();
        p08Rules();
        p08NoneSuch();
        p09Worlds();
        p09NoneSuch();
        p10Agents();
        p10NoneSuch();
        p11CantBe();
        p11NoneSuch();
        p12HowMany();
        p12NoneSuch();
        p13NoneIs();
        p13Others();
        p13NoneOf600();
        p14NoneSuch();
        p15ZeroMovesToo();
        p16Others();
        p17NeverUsed();
        p17NoneSuch();
        p18NoneSuch();
        p18AllStays();
        p19WithoutRules();
        p19OfLikeOnes();
        p19ByEachInTurn();
        p20OfTheHome();
        p20NoneSuch();
        p21ZeroOrOne();
        p21NoneSuch();
        p22Refused();
        p23Refused();
        p23FirstAndLast();
        p24OneToHundred();
        p24Refused();
        p24OneAct();
        p25NoneCanBe();
        p25SeedAndSeenStay();
        p26BelowZero();
        p26OneAtFirst();
        p27RowsOneToSix();
        p27StatesAndNumbers();
        p27MovesZeroToSix();
        p27RefusedAllStays();
        p27TapeGoes();
        p28NothingSeen();
        p28NoneSuch();
        p28BehindAnotherTable();
        p29WithoutAny();
        p29Others();
        p29AllAgents();
        p30NoneSuch();
        p31OfNone();
        p31TapeGoes();
        p32WithoutATable();
        p33NoneSuch();
        p33WrittenLast();
        p34OfThisTable();
        p34NotAnImage();
        p34NotReached();
        p34AnyOtherByte();
        p34RefusedAllStays();
        p34NothingCanBeUndone();
        p35EachCounter();
        p35OthersCountNothing();
        p35Others();
        due.finish();
    }

    private static void isText(String what, String got, String want) {
        due.is(what + " \"" + got + "\" and not \"" + want + "\"", got.equals(want), true);
    }

    /** All that can be asked for without a change, but for status(). */
    private static String shown(ProtocolAtlas x) {
        StringBuilder all = new StringBuilder("fault " + x.fault(0) + " " + x.fault(1));
        all.append(" has");
        for (int what = 0; what < 14; what++) {
            all.append(" ").append(x.has(what));
        }
        all.append(" now");
        for (int a = NONE; a < x.has(0); a++) {
            for (int what = 0; what < 4; what++) {
                all.append(" ").append(x.now(a, what));
            }
        }
        all.append(" could ").append(x.could(NONE)).append(" ").append(x.could(0)).append(" ").append(x.tells(0))
                .append(" ").append(x.tells(1));
        all.append(" rest ").append(x.letter(0, 0, 0)).append(" ").append(x.rule(0, 3)).append(" ").append(x.first(0))
                .append(" ").append(x.returns()).append(" ").append(x.starving(0)).append(" ").append(x.mend());
        all.append(" written");
        for (int k = 0; x.octet(k) != NONE; k++) {
            all.append(" ").append(x.octet(k));
        }
        return all.toString();
    }

    private static String counted(ProtocolAtlas x) {
        StringBuilder all = new StringBuilder();
        for (int what = 0; what < 6; what++) {
            all.append(x.status(what)).append(" ");
        }
        return all.toString();
    }

    /** The call must answer as due, be counted once where it is told, and change nothing else. */
    private static void refused(ProtocolAtlas x, int counter, String call, BooleanSupplier answersSo) {
        String ahead = shown(x);
        int[] status = new int[6];
        for (int what = 0; what < 6; what++) {
            status[what] = x.status(what);
        }
        due.is(call + " is refused", answersSo.getAsBoolean(), true);
        for (int what = 0; what < 6; what++) {
            due.is("status(" + what + ") behind " + call, x.status(what), status[what] + (what == counter ? 1 : 0));
        }
        isText("all stays behind " + call, shown(x), ahead);
    }

    /** In the midst of things: moves were made, something was seen and written. */
    private static ProtocolAtlas busy() {
        ProtocolAtlas x = Due.of(LOCK);
        x.move(0, 1);
        x.move(3, 1);
        x.move(0, 0);
        Due.feed(x, 1, 2, 0, 0);
        x.see(0);
        x.image();
        return x;
    }

    private static long next(long seed) {
        return (1103515245L * seed + 12345L) % (1L << 31);
    }

    private static int[] imageOf(int... bytes) {
        int[] image = java.util.Arrays.copyOf(bytes, bytes.length + 1);
        int check = 193;
        for (int b : bytes) {
            check = (5 * check + b) % 251;
        }
        image[bytes.length] = check;
        return image;
    }

    private static void isEmptyTape(ProtocolAtlas x) {
        due.is("the tape is empty", x.feed(0, 0, 0, 0, 0), 20);
        x.end(0);
    }

    private static void p01NoTable() {
        due.at("1 No table");
        ProtocolAtlas x = new ProtocolAtlas();
        for (int a : ANY) {
            due.is("world(0, " + a + ")", x.world(0, a), NONE);
            due.is("world(" + a + ", 0)", x.world(a, 0), NONE);
            due.is("letter(" + a + ", 0, 0)", x.letter(a, 0, 0), NONE);
            due.is("letter(0, " + a + ", 0)", x.letter(0, a, 0), NONE);
            due.is("letter(0, 0, " + a + ")", x.letter(0, 0, a), NONE);
            due.is("rule(" + a + ", 0)", x.rule(a, 0), NONE);
            due.is("rule(0, " + a + ")", x.rule(0, a), NONE);
            due.is("agent(" + a + ", 0, 0)", x.agent(a, 0, 0), NONE);
            due.is("agent(0, " + a + ", 4)", x.agent(0, a, 4), NONE);
            due.is("agent(0, 0, " + a + ")", x.agent(0, 0, a), NONE);
            due.is("leads(" + a + ", 0, 0)", x.leads(a, 0, 0), NONE);
            due.is("leads(0, " + a + ", 0)", x.leads(0, a, 0), NONE);
            due.is("leads(0, 0, " + a + ")", x.leads(0, 0, a), NONE);
            due.is("way(" + a + ", -1, 0)", x.way(a, NONE, 0), NONE);
            due.is("way(0, " + a + ", 0)", x.way(0, a, 0), NONE);
            due.is("first(" + a + ")", x.first(a), NONE);
            due.is("part(" + a + ", 0)", x.part(a, 0), NONE);
            due.is("part(0, " + a + ")", x.part(0, a), NONE);
            due.is("starving(" + a + ")", x.starving(a), NONE);
            due.is("uses(" + a + ")", x.uses(a), NONE);
            due.is("without(" + a + ", 0)", x.without(a, 0), NONE);
            due.is("without(0, " + a + ")", x.without(0, a), NONE);
            due.is("now(" + a + ", 0)", x.now(a, 0), NONE);
            due.is("now(-1, " + a + ")", x.now(NONE, a), NONE);
            due.is("can(" + a + ", 0)", x.can(a, 0), NONE);
            due.is("can(0, " + a + ")", x.can(0, a), NONE);
            due.is("could(" + a + ")", x.could(a), NONE);
            due.is("tells(" + a + ")", x.tells(a), NONE);
            due.is("spell(" + a + ")", x.spell(a), NONE);
            due.is("octet(" + a + ")", x.octet(a), NONE);
        }
        due.is("returns()", x.returns(), NONE);
        due.is("mend()", x.mend(), NONE);
        due.is("image()", x.image(), NONE);
    }

    private static void p01NothingIsRefusedYet() {
        due.at("1 A new object: nothing was refused, the tape is empty");
        ProtocolAtlas x = new ProtocolAtlas();
        isText("status", counted(x), "0 0 0 0 0 0 ");
        due.is("end(0)", x.end(0), true);
        due.is("end(1)", x.end(1), false);
        due.is("a second object has its own", new ProtocolAtlas().status(0), 0);
    }

    private static void p02HighestFirst() {
        due.at("2 Twenty bytes .., of each number the highest first");
        ProtocolAtlas x = Due.of("agents 4 states a,b;");
        // An image of the first world is 18 bytes: 255, then four times 0 255 255 255, then the check.
        int check = imageOf(255, 0, 255, 255, 255, 0, 255, 255, 255, 0, 255, 255, 255, 0, 255, 255, 255)[17];
        due.is("feed()", x.feed(0xff00ffff, 0xff00ffff, 0xff00ffff, 0xff00ffff, 0xff << 24 | check << 16), 20);
        due.is("end(18)", x.end(18), true);
        due.is("on()", x.on(), true);
        // Of five numbers the first one first: "agents 3 states zyx;".
        due.is("feed()", x.feed(0x6167656e, 0x74732033, 0x20737461, 0x74657320, 0x7a79783b), 20);
        due.is("table()", x.table(), 1);
        due.is("has(0)", x.has(0), 3);
        int[] letters = {26, 25, 24, 0};
        for (int k = 0; k < 4; k++) {
            due.is("letter(0, 0, " + k + ")", x.letter(0, 0, k), letters[k]);
        }
    }

    private static void p02BehindThoseOnTheTape() {
        due.at("2 .. come behind those on the tape: how many there are");
        ProtocolAtlas x = new ProtocolAtlas();
        for (int k = 1; k <= 80; k++) {
            due.is("feed() " + k, x.feed(LOW, FAR, -1, 0, k), 20 * k);
        }
        ProtocolAtlas y = new ProtocolAtlas();
        y.feed(0x6167656e, 0x74732032, 0x20737461, 0x74657320, 0x693b2020);
        y.end(18);
        // "on i to i;" and ten blanks.
        due.is("feed()", y.feed(0x6f6e2069, 0x20746f20, 0x693b2020, 0x20202020, 0x20202020), 38);
        due.is("table()", y.table(), 2);
        due.is("has(4)", y.has(4), 1);
    }

    private static void p02MoreThan1600() {
        due.at("2 NONE, refused (0), if there would be more than 1600");
        for (int size : new int[] {1579, 1580, 1581, 1599, 1600}) {
            ProtocolAtlas x = new ProtocolAtlas();
            for (int k = 0; k < 80; k++) {
                x.feed(0, 0, 0, 0, 0);
            }
            x.end(size);
            boolean fits = size + 20 <= 1600;
            due.is("feed() behind " + size, x.feed(1, 1, 1, 1, 1), fits ? size + 20 : NONE);
            due.is("status(0)", x.status(0), fits ? 0 : 1);
        }
    }

    private static void p02RefusedLeavesTheTape() {
        due.at("2 refused: the tape is as it was");
        ProtocolAtlas x = new ProtocolAtlas();
        Due.feed(x, " ".repeat(1582) + "agents 2 states i;");
        refused(x, 0, "feed()", () -> x.feed(0x78787878, 0, 0, 0, 0) == NONE);
        refused(x, 0, "feed()", () -> x.feed(-1, -1, -1, -1, -1) == NONE);
        due.is("table()", x.table(), 1);
        ProtocolAtlas y = new ProtocolAtlas();
        Due.feed(y, " ".repeat(1563) + "agents 2 states i;");
        refused(y, 0, "feed()", () -> y.feed(0x78787878, 0, 0, 0, 0) == NONE);
        due.is("end(1582)", y.end(1582), false);
        due.is("table()", y.table(), 1);
    }

    private static void p03FirstBytesAlone() {
        due.at("3 The tape has its first n bytes alone: true");
        String text = "agents 2 states i;order kept;";
        for (int n = text.length() + 3; n >= 0; n--) {
            ProtocolAtlas x = new ProtocolAtlas();
            Due.feed(x, text + "xyz");
            due.is("end(" + n + ")", x.end(n), true);
            due.is("feed()", x.feed(0x20202020, 0x20202020, 0x20202020, 0x20202020, 0x20202020), n + 20);
            due.is("table() of " + n, x.table(), n == 18 ? 1 : n == 29 ? 2 : NONE);
        }
        ProtocolAtlas y = new ProtocolAtlas();
        due.is("end(0) of nothing", y.end(0), true);
        y.feed(0, 0, 0, 0, 0);
        due.is("end(20), all of them", y.end(20), true);
        due.is("end(20), again", y.end(20), true);
        due.is("end(0)", y.end(0), true);
        due.is("end(1)", y.end(1), false);
    }

    private static void p03NotSoMany() {
        due.at("3 false, refused (0), if it has not so many");
        ProtocolAtlas x = busy();
        for (int n : new int[] {1, 2, 20, 1600, 1601, FAR - 1, FAR}) {
            refused(x, 0, "end(" + n + ")", () -> !x.end(n));
        }
        Due.feed(x, TOGGLE);
        int n = TOGGLE.length();
        refused(x, 0, "end of one more", () -> !x.end(n + 1));
        refused(x, 0, "end(far)", () -> !x.end(FAR));
        due.is("the tape is as it was", x.table(), 3);
    }

    private static void p03BelowZero() {
        due.at("3 false, refused (0), if .. n is below 0");
        ProtocolAtlas x = busy();
        Due.feed(x, TOGGLE);
        for (int n : new int[] {-1, -2, -20, -1600, LOW + 1, LOW}) {
            refused(x, 0, "end(" + n + ")", () -> !x.end(n));
        }
        due.is("the tape is as it was", x.table(), 3);
    }

    private static void p04WithoutAStatement() {
        due.at("4 one without a STATEMENT has FAULT 1 at its length");
        for (int n : new int[] {0, 1, 2, 19, 20, 21, 1599, 1600}) {
            for (String blank : new String[] {" ", "\n"}) {
                ProtocolAtlas x = new ProtocolAtlas();
                Due.feed(x, blank.repeat(n));
                due.is("table()", x.table(), NONE);
                due.is("fault(0) of " + n, x.fault(0), 1);
                due.is("fault(1) of " + n, x.fault(1), n);
                due.is("status(1)", x.status(1), 1);
            }
        }
    }

    private static void p04RefusedAllStays() {
        due.at("4 NONE, refused (1), with a FAULT (all stays)");
        String large = "agents 4 states a,b,c,d,e,f;home s;messages m,n;on a to b sends m;on b to c;on c to d sends n;"
                + "on d to e;on e to f;on f to a;at s with m to s tells n;at s with n to s replies m;";
        String[] texts = {"", "agents 9 states a;", "agents 3 states a,b,c;home a;", "agents 4 states q;on q to q;?",
            "agents 4 states q;home x;home y;", "agents 2 states q;wants q q;never 4 q;order loose;on q to q;on q", large};
        for (String text : texts) {
            ProtocolAtlas x = busy();
            x.seed(4711);
            String ahead = shown(x).substring(shown(x).indexOf(" has"));
            Due.feed(x, text);
            due.is("table()", x.table(), NONE);
            due.is("status(1)", x.status(1), 1);
            isText("all stays behind " + text, shown(x).substring(shown(x).indexOf(" has")), ahead);
            isText("worlds stay", Due.textOf(Due.written(x, x.spell(8))), "busy i!rel w!req");
            due.is("leads stay", x.leads(0, 0, 0), 1);
            due.is("rules stay", x.without(4, 4), 6);
            due.is("can", x.can(1, 1), 1);
            due.is("the walk goes on", x.move(1, 1) != NONE, true);
            due.is("acts stay", x.has(12), 4);
            for (int k = 0; k < 4; k++) {
                due.is("undo()", x.undo(), true);
            }
            x.chance(1);
            due.is("the seed stays", x.now((int) (next(4711) / 64 % 2), 0), 1);
        }
    }

    private static void p04TapeGoes() {
        due.at("4 The tape (it goes)");
        for (String text : new String[] {TOGGLE, "nonsense", "agents 2 states i"}) {
            ProtocolAtlas x = new ProtocolAtlas();
            Due.feed(x, text);
            x.table();
            due.is("end(1)", x.end(1), false);
            isEmptyTape(x);
            // Once more there is nothing to read.
            due.is("table()", x.table(), NONE);
            due.is("fault(1)", x.fault(1), 0);
        }
    }

    private static void p04WithoutAFault() {
        due.at("4 Without one THE WALK is at the first WORLD, nothing is SEEN or can be undone");
        ProtocolAtlas x = busy();
        Due.feed(x, LOCK);
        due.is("how many STATEMENTS", x.table(), 10);
        due.is("now(-1, 1)", x.now(NONE, 1), 0);
        due.is("now(1, 0)", x.now(1, 0), 0);
        due.is("has(12)", x.has(12), 0);
        due.is("has(13)", x.has(13), 0);
        due.is("could(-1)", x.could(NONE), 1);
        due.is("could(0)", x.could(0), 0);
        due.is("undo()", x.undo(), false);
        // Moves since that were seen are forgotten, too.
        Due.feed(x, 0, 1);
        x.see(6);
        Due.feed(x, TOGGLE);
        x.table();
        due.is("behind 0 MOVES", x.could(NONE), 1);
        due.is("behind 0 MOVES", x.could(0), 0);
    }

    private static void p04TheSeedStays() {
        due.at("4 .. the seed stays");
        for (int seed : new int[] {0, 5, 99, FAR}) {
            ProtocolAtlas x = Due.of(LOCK);
            x.seed(seed);
            x.chance(1);
            Due.feed(x, TOGGLE);
            x.table();
            x.chance(1);
            due.is("the second draw of " + seed, x.now((int) (next(next(seed)) / 64 % 2), 0), 1);
        }
    }

    private static void p05AheadOfAny() {
        due.at("5 its FAULT (0; .. ahead of any), its place (1; NONE without)");
        ProtocolAtlas x = new ProtocolAtlas();
        due.is("fault(0)", x.fault(0), 0);
        due.is("fault(1)", x.fault(1), NONE);
        Due.feed(x, "nonsense");
        due.is("fault(0) of what is on the tape", x.fault(0), 0);
        x.see(0);
        x.which();
        x.on();
        due.is("see(), which(), on() have none", x.fault(0), 0);
        due.is("see(), which(), on() have none", x.fault(1), NONE);
    }

    private static void p05OfTheLatest() {
        due.at("5 Of the latest table()");
        ProtocolAtlas x = new ProtocolAtlas();
        String[] texts = {"agents 7", TOGGLE, "agents 2 states i,i;", "agents 2 states i", LOCK, "agents 2 states i;?",
            "agents 2 states i;home s;home s;", ONEWAY, ""};
        int[] faults = {2, 0, 3, 1, 0, 1, 5, 0, 1};
        int[] places = {7, NONE, 18, 17, NONE, 18, 25, NONE, 0};
        for (int k = 0; k < texts.length; k++) {
            Due.feed(x, texts[k]);
            x.table();
            due.is("fault(0) of " + texts[k], x.fault(0), faults[k]);
            due.is("fault(1) of " + texts[k], x.fault(1), places[k]);
            Due.feed(x, 9, 9, 9);
            x.see(9);
            due.is("fault(0) behind see()", x.fault(0), faults[k]);
            due.is("fault(1) behind see()", x.fault(1), places[k]);
        }
    }

    private static void p05AnotherWhat() {
        due.at("5 NONE for another what");
        ProtocolAtlas x = new ProtocolAtlas();
        ProtocolAtlas y = Due.of("agents 7");
        for (int what : new int[] {LOW, -2, -1, 2, 3, 7, FAR}) {
            due.is("fault(" + what + ")", x.fault(what), NONE);
            due.is("fault(" + what + ")", y.fault(what), NONE);
        }
    }

    private static void p06WithoutATable() {
        due.at("6 Without a table 0 each");
        ProtocolAtlas x = new ProtocolAtlas();
        for (int round = 0; round < 2; round++) {
            for (int what = 0; what <= 13; what++) {
                due.is("has(" + what + ")", x.has(what), 0);
            }
            // A table that is refused is none.
            Due.feed(x, TOGGLE + "?");
            x.table();
        }
    }

    private static void p06Others() {
        due.at("6 NONE for others");
        ProtocolAtlas x = new ProtocolAtlas();
        ProtocolAtlas y = Due.of(LOCK);
        for (int what : new int[] {LOW, LOW + 1, -14, -2, -1, 14, 15, 16, 256, 1 << 16, FAR - 1, FAR}) {
            due.is("has(" + what + ") without a table", x.has(what), NONE);
            due.is("has(" + what + ")", y.has(what), NONE);
        }
    }

    private static void p06EachOfThem() {
        due.at("6 How many there are");
        // The most of each: 4, 6, 6, 6, 16.
        ProtocolAtlas x = Due.of("agents 4 states a,b,c,d,e,f;home g,j,k,l,m,n;messages p,q,r,s,t,u;" + "on b to b;".repeat(16));
        int[] most = {4, 6, 6, 6, 16, 1, 1, 0, 0, 0, 1, 1, 0, 0};
        // The least: 2 agents, 1 state, nothing else.
        ProtocolAtlas y = Due.of("agents 2 states a;");
        int[] least = {2, 1, 0, 0, 0, 1, 1, 0, 0, 0, 1, 1, 0, 0};
        for (int what = 0; what <= 13; what++) {
            due.is("has(" + what + ") of the most", x.has(what), most[what]);
            due.is("has(" + what + ") of the least", y.has(what), least[what]);
        }
        ProtocolAtlas z = Due.of(ONEWAY);
        int[] oneway = {3, 3, 0, 0, 2, 10, 27, 6, 54, 4, 1, 10};
        for (int what = 0; what < oneway.length; what++) {
            due.is("has(" + what + ")", z.has(what), oneway[what]);
        }
        for (int k = 1; k <= 22; k++) {
            z.jump(k % 10);
            due.is("has(12) behind " + k, z.has(12), Math.min(k, 20));
        }
        for (int k = 1; k <= 6; k++) {
            Due.feed(z, new int[2 * k]);
            z.see(0);
            due.is("has(13)", z.has(13), k);
        }
    }

    /** Just 600 folded worlds and 16 rules, of which the last nine are like the sixth. */
    private static final String FULL = "agents 3 states a,b,c;home s;messages m;at s with m to s replies m tells m;on c to b;"
            + "on c with m to c sends m;on a to c;on c to a;on c to c;on b to c sends m;" + "on c to c;".repeat(9)
            + "never 3 b;wants a b;";

    private static void p06Full() {
        due.at("6 How many there are, of 600 FOLDED WORLDS and 16 RULES");
        ProtocolAtlas x = Due.of(FULL);
        due.is("has(4)", x.has(4), 16);
        due.is("has(5)", x.has(5), 600);
        ProtocolAtlas y = Due.of(FULL);
        int worlds = 0;
        int moves = 0;
        int bad = 0;
        int stuck = 0;
        int first = NONE;
        int firstStuck = NONE;
        for (int w = 0; w < 600; w++) {
            int times = y.world(w, 1);
            worlds += times;
            moves += times * y.world(w, 5);
            bad += times * y.world(w, 3);
            stuck += times * y.world(w, 4);
            boolean threeInB = y.agent(w, 0, 0) == 1 && y.agent(w, 2, 0) == 1;
            due.is("world(" + w + ", 3)", y.world(w, 3), threeInB ? 1 : 0);
            first = first == NONE && threeInB ? w : first;
            firstStuck = firstStuck == NONE && y.world(w, 5) == 0 ? w : firstStuck;
        }
        due.is("has(6)", x.has(6), worlds);
        due.is("has(7)", x.has(7), y.world(599, 0));
        due.is("has(8)", x.has(8), moves);
        due.is("has(9)", x.has(9), bad);
        due.is("has(10)", x.has(10), stuck);
        due.is("first(0)", x.first(0), first);
        due.is("first(1)", x.first(1), firstStuck);
        int uses = 0;
        for (int r = 0; r < 16; r++) {
            uses += x.uses(r);
            due.is("uses(" + r + ")", x.uses(r), r > 6 ? x.uses(5) : x.uses(r));
            due.is("without(" + r + ", 0)", x.without(r, 0), r > 4 && r != 6 ? 600 : x.without(r, 0));
        }
        due.is("uses all together", uses, moves);
        due.is("world 599 can be jumped to", x.jump(599), true);
        due.is("could(0)", x.could(0), 599);
        due.is("jump(600)", x.jump(600), false);
        due.is("returns()", x.returns() > 0, true);
        due.is("starving(0)", x.starving(0), 0);
        due.is("starving(1)", x.starving(1) >= 0, true);
        Due.feed(x, 0, 1);
        due.is("see(6)", x.see(6), 1);
        due.is("jump(0)", x.jump(0), true);
        due.is("could(-1)", x.could(NONE) > 0, true);
        due.is("spell(599)", x.spell(599) > 0, true);
        Due.feed(x, Due.written(x, x.spell(599)));
        due.is("which()", x.which(), 599);
    }

    private static void p13NoneOf600() {
        due.at("13 NONE when none is, of 600 FOLDED WORLDS");
        ProtocolAtlas x = Due.of(FULL.substring(0, FULL.indexOf("never")).replace("on c to c;on c to c;", "on c to c;on b to b;"));
        due.is("has(5)", x.has(5), 600);
        for (int what = 0; what < 4; what++) {
            due.is("first(" + what + ")", x.first(what), NONE);
        }
        due.is("has(9)", x.has(9), 0);
        due.is("has(10)", x.has(10), 0);
        due.is("part(0, 1)", x.part(0, 1), 0);
        due.is("leads(599, 0, 3)", x.leads(599, 0, 3), NONE);
    }

    private static void p06BehindALargerTable() {
        due.at("6 How many there are, behind a larger table");
        for (String larger : new String[] {FULL, ONEWAY, LOCK}) {
            ProtocolAtlas x = Due.of(larger);
            x.mend();
            x.could(0);
            Due.feed(x, TOGGLE);
            x.table();
            int[] toggle = {2, 2, 0, 0, 2, 3, 4, 2, 8, 0, 0, 1, 0, 0};
            for (int what = 0; what < 14; what++) {
                due.is("has(" + what + ")", x.has(what), toggle[what]);
            }
            for (int what = 0; what < 4; what++) {
                due.is("first(" + what + ")", x.first(what), NONE);
            }
            due.is("returns()", x.returns(), 4);
            due.is("starving(0)", x.starving(0), 0);
            due.is("starving(1)", x.starving(1), 0);
            due.is("part(0, 0)", x.part(0, 0), 3);
            due.is("part(0, 1)", x.part(0, 1), 0);
            due.is("part(0, 2)", x.part(0, 2), 1);
            due.is("part(1, 0)", x.part(1, 0), NONE);
            due.is("uses(0)", x.uses(0), 4);
            due.is("uses(2)", x.uses(2), NONE);
            due.is("mend()", x.mend(), 0);
            due.is("without(1, 3)", x.without(1, 3), 1);
            due.is("world(3, 0)", x.world(3, 0), NONE);
            for (int w = 0; w < 3; w++) {
                due.is("world(" + w + ", 6)", x.world(w, 6), 0);
            }
        }
    }

    private static void p07Letters() {
        due.at("7 1 .. 26; 0 behind it");
        ProtocolAtlas x = Due.of("agents 2 states a,zz,mnop;home abcdef,b;messages uvwxyz,c,zzzzzz;");
        String[][] names = {{"a", "zz", "mnop"}, {"abcdef", "b"}, {"uvwxyz", "c", "zzzzzz"}};
        for (int kind = 0; kind < 3; kind++) {
            for (int i = 0; i < names[kind].length; i++) {
                for (int k = 0; k < 6; k++) {
                    int want = k < names[kind][i].length() ? names[kind][i].charAt(k) - 'a' + 1 : 0;
                    due.is("letter(" + kind + ", " + i + ", " + k + ")", x.letter(kind, i, k), want);
                }
                due.is("letter(" + kind + ", " + i + ", 6)", x.letter(kind, i, 6), NONE);
                due.is("letter(" + kind + ", " + i + ", -1)", x.letter(kind, i, -1), NONE);
            }
            due.is("letter(" + kind + ", behind, 0)", x.letter(kind, names[kind].length, 0), NONE);
            due.is("letter(" + kind + ", -1, 0)", x.letter(kind, -1, 0), NONE);
        }
    }

    private static void p07NoneSuch() {
        due.at("7 NONE when there is none such");
        ProtocolAtlas x = Due.of("agents 2 states a,b,c,d,e,f;home g;messages m,n;");
        due.is("the last STATE", x.letter(0, 5, 0), 6);
        for (int bad : NEVER) {
            due.is("letter(" + bad + ", 0, 0)", x.letter(bad, 0, 0), NONE);
            due.is("letter(0, " + bad + ", 0)", x.letter(0, bad, 0), NONE);
            due.is("letter(0, 0, " + bad + ")", x.letter(0, 0, bad), NONE);
        }
        int[][] none = {{-1, 0, 0}, {3, 0, 0}, {0, 6, 0}, {1, 1, 0}, {2, 2, 0}, {0, -1, 0}, {1, -1, 0}, {0, 0, 6}, {0, 0, -1}};
        for (int[] n : none) {
            due.is("letter(" + n[0] + ", " + n[1] + ", " + n[2] + ")", x.letter(n[0], n[1], n[2]), NONE);
        }
        // A table ahead with more names leaves none.
        Due.feed(x, "agents 2 states z;");
        x.table();
        due.is("letter(0, 0, 0)", x.letter(0, 0, 0), 26);
        due.is("letter(0, 1, 0)", x.letter(0, 1, 0), NONE);
        due.is("letter(1, 0, 0)", x.letter(1, 0, 0), NONE);
        due.is("letter(2, 0, 0)", x.letter(2, 0, 0), NONE);
    }

    private static void p08Rules() {
        due.at("8 Of a RULE: .. (2, 4, 5, 6: NONE)");
        ProtocolAtlas x = Due.of("agents 2 states a,b,c;home d,e,f;messages g,h,i;on c with i to b sends h;on a to a;"
                + "at f with i to e replies h tells g some c;at d with g to d none a;at e with h to f tells i;");
        int[][] rules = {{0, 2, 2, 1, 1, NONE, NONE, 0}, {0, 0, NONE, 0, NONE, NONE, NONE, 0}, {1, 2, 2, 1, 1, 0, 2, 1},
            {1, 0, 0, 0, NONE, NONE, 0, 0}, {1, 1, 1, 2, NONE, 2, NONE, 0}};
        for (int r = 0; r < rules.length; r++) {
            for (int what = 0; what < 8; what++) {
                due.is("rule(" + r + ", " + what + ")", x.rule(r, what), rules[r][what]);
            }
        }
    }

    private static void p08NoneSuch() {
        due.at("8 NONE when there is none such, or for others");
        ProtocolAtlas x = Due.of(LOCK);
        for (int bad : NEVER) {
            due.is("rule(" + bad + ", 0)", x.rule(bad, 0), NONE);
            due.is("rule(0, " + bad + ")", x.rule(0, bad), NONE);
        }
        for (int what = 0; what < 8; what++) {
            due.is("rule(-1, " + what + ")", x.rule(-1, what), NONE);
            due.is("rule(5, " + what + ")", x.rule(5, what), NONE);
            due.is("rule(16, " + what + ")", x.rule(16, what), NONE);
        }
        due.is("rule(4, 0)", x.rule(4, 0), 1);
        due.is("rule(4, 8)", x.rule(4, 8), NONE);
        due.is("rule(4, -1)", x.rule(4, -1), NONE);
        due.is("without rules", Due.of("agents 2 states i;").rule(0, 0), NONE);
    }

    private static void p09Worlds() {
        due.at("9 Of a FOLDED WORLD: the first, the last");
        ProtocolAtlas x = Due.of(ONEWAY);
        int[] first = {0, 1, NONE, 0, 0, 3, 0};
        int[] last = {6, 1, NONE, 1, 1, 0, 9};
        for (int what = 0; what < 7; what++) {
            due.is("world(0, " + what + ")", x.world(0, what), first[what]);
            due.is("world(9, " + what + ")", x.world(9, what), last[what]);
        }
    }

    private static void p09NoneSuch() {
        due.at("9 NONE when there is none such, or for others");
        ProtocolAtlas x = Due.of(ONEWAY);
        for (int bad : NEVER) {
            due.is("world(" + bad + ", 0)", x.world(bad, 0), NONE);
            due.is("world(0, " + bad + ")", x.world(0, bad), NONE);
        }
        for (int what = 0; what < 7; what++) {
            due.is("world(-1, " + what + ")", x.world(-1, what), NONE);
            due.is("world(10, " + what + ")", x.world(10, what), NONE);
        }
        due.is("world(0, 7)", x.world(0, 7), NONE);
        due.is("world(0, -1)", x.world(0, -1), NONE);
        // Fewer worlds than in the table ahead.
        Due.feed(x, TOGGLE);
        x.table();
        due.is("world(2, 0)", x.world(2, 0), 2);
        due.is("world(3, 0)", x.world(3, 0), NONE);
    }

    private static void p10Agents() {
        due.at("10 (NONE: nothing)");
        ProtocolAtlas x = Due.of("agents 2 states i;home s;messages m,n;on i to i sends n;at s with n to s replies n;");
        Due.feed(x, "s i i<n,n>!n");
        int world = x.which();
        int[][] agents = {{0, NONE, NONE, NONE, 0, 0}, {0, 1, 1, 1, 0, 0}};
        for (int a = 0; a < 2; a++) {
            for (int what = 0; what < 6; what++) {
                due.is("agent(" + world + ", " + a + ", " + what + ")", x.agent(world, a, what), agents[a][what]);
            }
        }
    }

    private static void p10NoneSuch() {
        due.at("10 NONE when there is none such, or for others");
        ProtocolAtlas x = Due.of(ONEWAY);
        for (int bad : NEVER) {
            due.is("agent(" + bad + ", 0, 0)", x.agent(bad, 0, 0), NONE);
            due.is("agent(0, " + bad + ", 0)", x.agent(0, bad, 0), NONE);
            due.is("agent(0, 0, " + bad + ")", x.agent(0, 0, bad), NONE);
        }
        for (int what = 0; what < 6; what++) {
            due.is("agent(-1, 0, " + what + ")", x.agent(-1, 0, what), NONE);
            due.is("agent(10, 0, " + what + ")", x.agent(10, 0, what), NONE);
            due.is("agent(0, -1, " + what + ")", x.agent(0, -1, what), NONE);
            // Three agents: a fourth is none, though there could be one.
            due.is("agent(0, 3, " + what + ")", x.agent(0, 3, what), NONE);
            due.is("agent(0, 4, " + what + ")", x.agent(0, 4, what), NONE);
        }
        due.is("agent(9, 2, 0)", x.agent(9, 2, 0), 2);
        due.is("agent(0, 0, 6)", x.agent(0, 0, 6), NONE);
        due.is("agent(0, 0, -1)", x.agent(0, 0, -1), NONE);
        ProtocolAtlas y = Due.of("agents 4 states i;");
        due.is("agent(0, 3, 0)", y.agent(0, 3, 0), 0);
        due.is("agent(0, 4, 0)", y.agent(0, 4, 0), NONE);
    }

    private static void p11CantBe() {
        due.at("11 NONE when it can't be");
        ProtocolAtlas x = Due.of(ONEWAY);
        // World 4 is i w h.
        int[][] leads = {{7, NONE, NONE}, {NONE, 6, NONE}};
        for (int r = 0; r < 2; r++) {
            for (int a = 0; a < 3; a++) {
                due.is("leads(4, " + r + ", " + a + ")", x.leads(4, r, a), leads[r][a]);
                due.is("leads(9, " + r + ", " + a + ")", x.leads(9, r, a), NONE);
            }
        }
    }

    private static void p11NoneSuch() {
        due.at("11 NONE .. or there is none such");
        ProtocolAtlas x = Due.of(ONEWAY);
        for (int bad : NEVER) {
            due.is("leads(" + bad + ", 0, 0)", x.leads(bad, 0, 0), NONE);
            due.is("leads(0, " + bad + ", 0)", x.leads(0, bad, 0), NONE);
            due.is("leads(0, 0, " + bad + ")", x.leads(0, 0, bad), NONE);
        }
        int[][] none = {{-1, 0, 0}, {10, 0, 0}, {0, -1, 0}, {0, 2, 0}, {0, 16, 0}, {0, 0, -1}, {0, 0, 3}, {0, 0, 4}};
        for (int[] n : none) {
            due.is("leads(" + n[0] + ", " + n[1] + ", " + n[2] + ")", x.leads(n[0], n[1], n[2]), NONE);
        }
        due.is("leads(0, 0, 2)", x.leads(0, 0, 2), 1);
        due.is("status(2) counts none of these", x.status(2), 0);
    }

    private static void p12HowMany() {
        due.at("12 k NONE: how many MOVES (0)");
        ProtocolAtlas x = Due.of(ONEWAY);
        for (int w = 0; w < 10; w++) {
            int many = x.way(w, NONE, 0);
            due.is("way(" + w + ", -1, 0)", many, x.world(w, 0));
            for (int k = 0; k < many; k++) {
                due.is("way(" + w + ", " + k + ", 0) is one", x.way(w, k, 0) >= 0 && x.way(w, k, 0) < 2, true);
                due.is("way(" + w + ", " + k + ", 1) is one", x.way(w, k, 1) >= 0 && x.way(w, k, 1) < 3, true);
                due.is("way(" + w + ", " + k + ", 2)", x.way(w, k, 2), NONE);
            }
            due.is("way(" + w + ", behind, 0)", x.way(w, many, 0), NONE);
            due.is("way(" + w + ", behind, 1)", x.way(w, many, 1), NONE);
            due.is("way(" + w + ", -1, 1)", x.way(w, NONE, 1), NONE);
            due.is("way(" + w + ", -1, -1)", x.way(w, NONE, -1), NONE);
            due.is("way(" + w + ", -2, 0)", x.way(w, -2, 0), NONE);
        }
    }

    private static void p12NoneSuch() {
        due.at("12 NONE when there is none such, or for others");
        ProtocolAtlas x = Due.of(ONEWAY);
        for (int bad : NEVER) {
            due.is("way(" + bad + ", -1, 0)", x.way(bad, NONE, 0), NONE);
            due.is("way(" + bad + ", 0, 0)", x.way(bad, 0, 0), NONE);
            due.is("way(9, " + bad + ", 0)", x.way(9, bad, 0), NONE);
            due.is("way(9, 0, " + bad + ")", x.way(9, 0, bad), NONE);
            due.is("way(9, -1, " + bad + ")", x.way(9, NONE, bad), NONE);
        }
        due.is("way(-1, -1, 0)", x.way(-1, NONE, 0), NONE);
        due.is("way(10, -1, 0)", x.way(10, NONE, 0), NONE);
        due.is("way(9, 5, 0)", x.way(9, 5, 0), 1);
        due.is("way(9, 6, 0)", x.way(9, 6, 0), NONE);
    }

    private static void p13NoneIs() {
        due.at("13 NONE when none is");
        ProtocolAtlas x = Due.of(TOGGLE);
        for (int what = 0; what < 4; what++) {
            due.is("first(" + what + ")", x.first(what), NONE);
        }
        // The first world is all of it.
        ProtocolAtlas y = Due.of("agents 2 states i,w;never 1 i;wants i w;");
        int[] first = {0, 0, 0, NONE};
        for (int what = 0; what < 4; what++) {
            due.is("first(" + what + ")", y.first(what), first[what]);
        }
        // The last world is the first one, and an agent that is not the first.
        ProtocolAtlas z = Due.of("agents 2 states i,w;on i to w;never 2 w;wants w i;");
        int[] last = {2, 2, 1, NONE};
        for (int what = 0; what < 4; what++) {
            due.is("first(" + what + ")", z.first(what), last[what]);
        }
        due.is("first(3)", Due.of("agents 2 states i,w;on i to w;on w to w;wants w i;").first(3), 1);
    }

    private static void p13Others() {
        due.at("13 NONE .. for others");
        ProtocolAtlas x = Due.of("agents 2 states i,w;never 1 i;wants i w;on i to i;");
        for (int what : new int[] {LOW, -2, -1, 4, 5, 600, FAR}) {
            due.is("first(" + what + ")", x.first(what), NONE);
        }
    }

    private static void p14NoneSuch() {
        due.at("14 NONE when there is none such, or for others");
        ProtocolAtlas x = Due.of(ONEWAY);
        due.is("part(9, 0)", x.part(9, 0), 1);
        due.is("part(9, 1)", x.part(9, 1), 9);
        due.is("part(9, 2)", x.part(9, 2), 1);
        due.is("part(0, 2)", x.part(0, 2), 0);
        for (int bad : NEVER) {
            due.is("part(" + bad + ", 0)", x.part(bad, 0), NONE);
            due.is("part(0, " + bad + ")", x.part(0, bad), NONE);
        }
        for (int what = 0; what < 3; what++) {
            due.is("part(-1, " + what + ")", x.part(-1, what), NONE);
            due.is("part(10, " + what + ")", x.part(10, what), NONE);
        }
        due.is("part(0, 3)", x.part(0, 3), NONE);
        due.is("part(0, -1)", x.part(0, -1), NONE);
        ProtocolAtlas y = Due.of(TOGGLE);
        due.is("part(1, 0)", y.part(1, 0), NONE);
        due.is("fewer PARTS than WORLDS", y.part(0, 0), 3);
    }

    private static void p15ZeroMovesToo() {
        due.at("15 From how many WORLDS one can come to the first one (0 MOVES, too); NONE without a table");
        due.is("without a table", new ProtocolAtlas().returns(), NONE);
        due.is("one WORLD", Due.of("agents 4 states i;").returns(), 1);
        due.is("it can't be come to again", Due.of(ONEWAY).returns(), 1);
        due.is("all of them, not folded", Due.of(TOGGLE).returns(), 4);
        due.is("some", Due.of("agents 3 states i,w,h;on i to w;on w to i;on i to h;").returns(), 8);
        ProtocolAtlas x = new ProtocolAtlas();
        Due.feed(x, "nonsense");
        x.table();
        due.is("without a table still", x.returns(), NONE);
    }

    private static void p16Others() {
        due.at("16 NONE for others, or without a table");
        ProtocolAtlas x = Due.of("agents 2 states a,b;on a to a;wants a b;");
        due.is("starving(0)", x.starving(0), 2);
        due.is("starving(1)", x.starving(1), 2);
        for (int what : new int[] {LOW, -2, -1, 2, 3, FAR}) {
            due.is("starving(" + what + ")", x.starving(what), NONE);
        }
        ProtocolAtlas y = new ProtocolAtlas();
        due.is("without a table", y.starving(0), NONE);
        due.is("without a table", y.starving(1), NONE);
        // Of each WORLD, not folded: i w stands for two.
        due.is("of each WORLD", Due.of("agents 2 states i,w;on i to w;wants w i;").starving(0), 4);
    }

    private static void p17NeverUsed() {
        due.at("17 How many MOVES from all WORLDS are by a RULE: none, too");
        ProtocolAtlas x = Due.of("agents 2 states i,w,h;on w to i;on h to i;on i to h;");
        due.is("never used", x.uses(0), 0);
        due.is("uses(1)", x.uses(1), 4);
        due.is("uses(2)", x.uses(2), 4);
        due.is("all together", x.uses(0) + x.uses(1) + x.uses(2), x.has(8));
    }

    private static void p17NoneSuch() {
        due.at("17 NONE when there is none such");
        ProtocolAtlas x = Due.of(LOCK);
        for (int bad : NEVER) {
            due.is("uses(" + bad + ")", x.uses(bad), NONE);
        }
        // NONE is no RULE, though all MOVES could be meant.
        due.is("uses(-1)", x.uses(-1), NONE);
        due.is("uses(5)", x.uses(5), NONE);
        due.is("uses(16)", x.uses(16), NONE);
        due.is("uses(4)", x.uses(4) > 0, true);
        due.is("without rules", Due.of("agents 2 states i;").uses(0), NONE);
    }

    private static void p18NoneSuch() {
        due.at("18 NONE when there is none such, or for others");
        ProtocolAtlas x = Due.of(LOCK);
        for (int bad : NEVER) {
            due.is("without(" + bad + ", 0)", x.without(bad, 0), NONE);
            due.is("without(0, " + bad + ")", x.without(0, bad), NONE);
        }
        for (int what = 0; what < 5; what++) {
            due.is("without(-1, " + what + ")", x.without(-1, what), NONE);
            due.is("without(5, " + what + ")", x.without(5, what), NONE);
            due.is("without(4, " + what + ") is one", x.without(4, what) >= 0, true);
        }
        due.is("without(0, 5)", x.without(0, 5), NONE);
        due.is("without(0, -1)", x.without(0, -1), NONE);
        due.is("without rules", Due.of("agents 2 states i;").without(0, 0), NONE);
    }

    private static void p18AllStays() {
        due.at("18 without() and mend() change nothing");
        ProtocolAtlas x = busy();
        String ahead = shown(x);
        for (int r = 0; r < 5; r++) {
            for (int what = 0; what < 5; what++) {
                x.without(r, what);
            }
        }
        x.mend();
        isText("all stays", shown(x), ahead);
        isText("nothing is refused", counted(x), "0 0 0 0 0 0 ");
        // Of the latest table, also if the one ahead was asked.
        Due.feed(x, ONEWAY);
        x.table();
        due.is("without(0, 0)", x.without(0, 0), 1);
        due.is("without(0, 4)", x.without(0, 4), 3);
        due.is("without(1, 1)", x.without(1, 1), 8);
        due.is("mend()", x.mend(), 0);
    }

    private static void p19WithoutRules() {
        due.at("19 NONE without RULES");
        due.is("mend()", Due.of("agents 2 states i;never 1 i;wants i i;").mend(), NONE);
        due.is("without a table", new ProtocolAtlas().mend(), NONE);
        due.is("one RULE", Due.of("agents 2 states i;on i to i;").mend(), 0);
        due.is("one that is never used", Due.of("agents 2 states i,w;on w to i;").mend(), 0);
    }

    private static void p19OfLikeOnes() {
        due.at("19 BAD WORLDS are fewest, then STUCK ones, then AGENTS that STARVE; of like ones the first");
        due.is("all alike", Due.of("agents 2 states i;" + "on i to i;".repeat(16)).mend(), 0);
        // Without the last of 16 alone b is not come to.
        due.is("the last of 16", Due.of("agents 2 states a,b;" + "on a to a;".repeat(15) + "on a to b;never 1 b;").mend(), 15);
        // Bad ones ahead of stuck ones: without rule 0 all is stuck, but nothing is bad.
        due.is("BAD ahead of STUCK", Due.of("agents 2 states a,b;on b to b;on a to b;never 1 b;").mend(), 1);
        // Stuck ones ahead of those who starve: without rule 1 the wish can't be had, without rule 0 all is stuck.
        due.is("STUCK ahead of STARVE", Due.of("agents 2 states a,b,c;on a to c;on c to b;on a to a;on b to b;on c to c;"
                + "wants c b;").mend(), 0);
    }

    private static void p19ByEachInTurn() {
        due.at("19 by BAD WORLDS, then STUCK ones, then AGENTS that STARVE; nothing else");
        // Without rule 0 there are fewest worlds, without rule 2 none is bad.
        ProtocolAtlas x = Due.of("agents 2 states a,b,c,x;on a to b;on b to c;on a to x;never 1 x;");
        int[] worlds = {4, 9, 9};
        int[] bad = {3, 5, 0};
        for (int r = 0; r < 3; r++) {
            due.is("without(" + r + ", 1)", x.without(r, 1), worlds[r]);
            due.is("without(" + r + ", 2)", x.without(r, 2), bad[r]);
        }
        due.is("by BAD", x.mend(), 2);
        // None is bad; stuck without rules 0, 1, 2: 1, 1, 0.
        ProtocolAtlas y = Due.of("agents 2 states a,b;on a to b;on b to a;on b to b;wants b a;");
        int[] stuck = {1, 0, 0};
        int[] starve = {0, 4, 0};
        for (int r = 0; r < 3; r++) {
            due.is("without(" + r + ", 2)", y.without(r, 2), 0);
            due.is("without(" + r + ", 3)", y.without(r, 3), stuck[r]);
            due.is("without(" + r + ", 4)", y.without(r, 4), starve[r]);
        }
        due.is("by STUCK, then STARVE", y.mend(), 2);
        // As many bad ones each: stuck ones tell.
        ProtocolAtlas z = Due.of("agents 2 states a,b,c;on a to b;on b to a;on c to c;never 2 a;");
        due.is("by STUCK with BAD alike", z.mend(), 2);
        // Fewer that starve do not outweigh one that is stuck: without rule 0 nobody comes to want.
        ProtocolAtlas u = Due.of("agents 2 states a,b,c;on a to b;on b to b;on b to c;on c to a;wants b c;");
        due.is("without(0, 3)", u.without(0, 3), 1);
        due.is("without(0, 4)", u.without(0, 4), 0);
        due.is("without(1, 3)", u.without(1, 3), 0);
        due.is("without(2, 4)", u.without(2, 4), 4);
        due.is("STUCK ahead of STARVE", u.mend(), 1);
    }

    private static void p20OfTheHome() {
        due.at("20 of agent NONE: 0 the HOME, 1 the FOLDED WORLD that stands for it, 2 whether it is BAD");
        ProtocolAtlas x = Due.of(ONEWAY);
        due.is("no HOME", x.now(NONE, 0), NONE);
        for (int w = 0; w < 10; w++) {
            x.jump(w);
            due.is("now(-1, 1)", x.now(NONE, 1), w);
            due.is("now(-1, 2)", x.now(NONE, 2), w == 7 || w == 9 ? 1 : 0);
            due.is("now(-1, 3)", x.now(NONE, 3), NONE);
        }
        ProtocolAtlas y = busy();
        due.is("the HOME", y.now(NONE, 0), 1);
    }

    private static void p20NoneSuch() {
        due.at("20 NONE when there is none such, or for others");
        ProtocolAtlas x = busy();
        for (int bad : NEVER) {
            due.is("now(" + bad + ", 0)", x.now(bad, 0), NONE);
            due.is("now(0, " + bad + ")", x.now(0, bad), NONE);
            due.is("now(-1, " + bad + ")", x.now(NONE, bad), NONE);
        }
        for (int what = 0; what < 4; what++) {
            // Two agents: a third is none, though there could be four.
            due.is("now(2, " + what + ")", x.now(2, what), NONE);
            due.is("now(3, " + what + ")", x.now(3, what), NONE);
            due.is("now(4, " + what + ")", x.now(4, what), NONE);
        }
        due.is("now(1, 4)", x.now(1, 4), NONE);
        due.is("now(1, 5)", x.now(1, 5), NONE);
        due.is("now(1, -1)", x.now(1, -1), NONE);
        due.is("now(-1, -1)", x.now(NONE, -1), NONE);
        due.is("now(0, 0)", x.now(0, 0), 1);
        due.is("now(1, 1)", x.now(1, 1), 1);
        due.is("nothing in IN", x.now(0, 1), NONE);
        due.is("nothing second", x.now(1, 2), NONE);
        due.is("in OUT", x.now(0, 3), 0);
        due.is("nothing in OUT", x.now(1, 3), NONE);
    }

    private static void p21ZeroOrOne() {
        due.at("21 Whether a MOVE can be in THE WALK: 1, 0");
        ProtocolAtlas x = busy();
        int[][] can = {{0, 0}, {0, 1}, {0, 0}, {0, 0}, {0, 0}};
        String ahead = shown(x);
        for (int r = 0; r < 5; r++) {
            for (int a = 0; a < 2; a++) {
                due.is("can(" + r + ", " + a + ")", x.can(r, a), can[r][a]);
            }
        }
        isText("nothing changes", shown(x), ahead);
    }

    private static void p21NoneSuch() {
        due.at("21 NONE when there is none such");
        ProtocolAtlas x = busy();
        for (int bad : NEVER) {
            due.is("can(" + bad + ", 0)", x.can(bad, 0), NONE);
            due.is("can(0, " + bad + ")", x.can(0, bad), NONE);
        }
        int[][] none = {{-1, 0}, {5, 0}, {16, 0}, {0, -1}, {0, 2}, {0, 3}, {0, 4}, {-1, -1}};
        for (int[] n : none) {
            due.is("can(" + n[0] + ", " + n[1] + ")", x.can(n[0], n[1]), NONE);
        }
        due.is("without rules", Due.of("agents 2 states i;").can(0, 0), NONE);
        isText("nothing is refused", counted(x), "0 0 0 0 0 0 ");
    }

    private static void p22Refused() {
        due.at("22 NONE, refused (2), when it can't be, or there is none such");
        ProtocolAtlas x = busy();
        for (int[] n : new int[][] {{0, 0}, {1, 0}, {0, 1}, {3, 0}, {4, 1}, {2, 0}}) {
            refused(x, 2, "move(" + n[0] + ", " + n[1] + ") that can't be", () -> x.move(n[0], n[1]) == NONE);
        }
        for (int[] n : new int[][] {{-1, 1}, {5, 1}, {16, 1}, {1, -1}, {1, 2}, {1, 3}, {1, 4}, {LOW, LOW}, {FAR, FAR}, {1, LOW},
            {1, FAR}, {LOW, 1}, {FAR, 1}}) {
            refused(x, 2, "move(" + n[0] + ", " + n[1] + ") of none such", () -> x.move(n[0], n[1]) == NONE);
        }
        due.is("one that can be", x.move(1, 1), x.now(NONE, 1));
        due.is("it is an ACT", x.has(12), 4);
        ProtocolAtlas y = new ProtocolAtlas();
        refused(y, 2, "move(0, 0) without a table", () -> y.move(0, 0) == NONE);
        ProtocolAtlas z = Due.of("agents 2 states i;");
        refused(z, 2, "move(0, 0) without rules", () -> z.move(0, 0) == NONE);
        // The seed stays, too.
        ProtocolAtlas u = Due.of(TOGGLE);
        u.move(1, 0);
        u.chance(1);
        due.is("the first draw of 1", u.now((int) (next(1) / 64 % 2), 0), 1);
    }

    private static void p23Refused() {
        due.at("23 false, refused (2), when there is none such");
        ProtocolAtlas x = busy();
        for (int world : new int[] {-1, -2, 9, 10, 599, 600, 601, LOW, FAR}) {
            refused(x, 2, "jump(" + world + ")", () -> !x.jump(world));
        }
        ProtocolAtlas y = new ProtocolAtlas();
        refused(y, 2, "jump(0) without a table", () -> !y.jump(0));
    }

    private static void p23FirstAndLast() {
        due.at("23 THE WALK is a FOLDED WORLD: true");
        ProtocolAtlas x = Due.of(LOCK);
        for (int w : new int[] {8, 0, 0, 8, 3}) {
            due.is("jump(" + w + ")", x.jump(w), true);
            due.is("now(-1, 1)", x.now(NONE, 1), w);
            for (int a = 0; a < 2; a++) {
                for (int what = 0; what < 4; what++) {
                    due.is("now(" + a + ", " + what + ")", x.now(a, what), x.agent(w, a, what));
                }
            }
            due.is("the HOME", x.now(NONE, 0), x.world(w, 2));
        }
        due.is("each is an ACT", x.has(12), 5);
        // The walk was w i, the folded world is i w.
        ProtocolAtlas y = Due.of(TOGGLE);
        y.move(0, 0);
        y.jump(1);
        due.is("agents are put as folded", y.now(0, 0), 0);
        due.is("agents are put as folded", y.now(1, 0), 1);
    }

    private static void p24OneToHundred() {
        due.at("24 n MOVES by the seed (1 .. 100)");
        for (int n : new int[] {1, 2, 99, 100}) {
            ProtocolAtlas x = Due.of(TOGGLE);
            due.is("chance(" + n + ")", x.chance(n), n);
            long drawn = 1;
            int[] state = new int[2];
            for (int k = 0; k < n; k++) {
                drawn = next(drawn);
                int move = (int) (drawn / 64 % 2);
                // By rule 0 those in i, then by rule 1 those in w.
                int agent = state[0] == state[1] ? move : state[0] == move ? 0 : 1;
                state[agent] = 1 - state[agent];
            }
            due.is("agent 0 behind " + n, x.now(0, 0), state[0]);
            due.is("agent 1 behind " + n, x.now(1, 0), state[1]);
            due.is("status(3)", x.status(3), 0);
        }
    }

    private static void p24Refused() {
        due.at("24 NONE, refused (3), when n can't be, or without a table");
        ProtocolAtlas x = busy();
        for (int n : new int[] {0, -1, -100, 101, 102, 200, LOW, FAR}) {
            refused(x, 3, "chance(" + n + ")", () -> x.chance(n) == NONE);
        }
        ProtocolAtlas y = new ProtocolAtlas();
        for (int n : new int[] {1, 100, 0, 101}) {
            refused(y, 3, "chance(" + n + ") without a table", () -> y.chance(n) == NONE);
        }
        // No draw was made by any of these.
        Due.feed(y, TOGGLE);
        y.table();
        y.chance(0);
        y.chance(101);
        y.chance(1);
        due.is("the first draw of 1", y.now((int) (next(1) / 64 % 2), 0), 1);
    }

    private static void p24OneAct() {
        due.at("24 .. one ACT: how many there were");
        ProtocolAtlas x = Due.of(ONEWAY);
        due.is("chance(4)", x.chance(4), 4);
        due.is("has(12)", x.has(12), 1);
        due.is("only two more can be", x.chance(100), 2);
        due.is("has(12)", x.has(12), 2);
        due.is("none can be", x.chance(1), 0);
        due.is("status(3)", x.status(3), 0);
        int acts = x.has(12);
        for (int k = 0; k < acts - 2; k++) {
            due.is("undo() of none", x.undo(), true);
            due.is("where it was", x.now(NONE, 1), 9);
        }
        due.is("undo()", x.undo(), true);
        due.is("two MOVES ahead", x.world(x.now(NONE, 1), 0), 4);
        due.is("undo()", x.undo(), true);
        due.is("where it began", x.now(NONE, 1), 0);
        due.is("undo()", x.undo(), false);
    }

    private static void p25NoneCanBe() {
        due.at("25 false, refused (4), when none can be");
        ProtocolAtlas x = new ProtocolAtlas();
        refused(x, 4, "undo() without a table", () -> !x.undo());
        Due.feed(x, TOGGLE);
        x.table();
        refused(x, 4, "undo() without an ACT", () -> !x.undo());
        x.move(0, 0);
        due.is("undo()", x.undo(), true);
        refused(x, 4, "undo() once more", () -> !x.undo());
        // What was refused is no ACT.
        x.move(1, 0);
        x.jump(99);
        x.chance(0);
        refused(x, 4, "undo() of what was refused", () -> !x.undo());
        for (int k = 0; k < 21; k++) {
            x.move(k % 2, 0);
        }
        for (int k = 0; k < 20; k++) {
            due.is("undo() " + k, x.undo(), true);
        }
        refused(x, 4, "undo() of the 21st", () -> !x.undo());
        due.is("the first of 21 stays", x.now(0, 0), 1);
    }

    private static void p25SeedAndSeenStay() {
        due.at("25 (the seed, SEEN stay)");
        ProtocolAtlas x = Due.of(TOGGLE);
        x.seed(321);
        x.chance(3);
        Due.feed(x, 0, 1);
        x.see(1);
        due.is("undo()", x.undo(), true);
        due.is("SEEN", x.has(13), 1);
        due.is("MOVES since", x.could(0), 1);
        x.chance(1);
        due.is("the fourth draw of 321", x.now((int) (next(next(next(next(321)))) / 64 % 2), 0), 1);
        for (int seed = 0; seed < 20; seed++) {
            ProtocolAtlas y = Due.of("agents 4 states i,w;on i to w;");
            y.seed(seed);
            y.chance(1);
            due.is("undo()", y.undo(), true);
            y.chance(1);
            due.is("the second draw of " + seed, y.now((int) (next(next(seed)) / 64 % 4), 0), 1);
        }
    }

    private static void p26BelowZero() {
        due.at("26 false, refused (5), when it is below 0");
        ProtocolAtlas x = Due.of(TOGGLE);
        x.seed(12);
        for (int seed : new int[] {-1, -2, -12345, LOW + 1, LOW}) {
            refused(x, 5, "seed(" + seed + ")", () -> !x.seed(seed));
        }
        x.chance(1);
        due.is("the first draw of 12", x.now((int) (next(12) / 64 % 2), 0), 1);
        for (int seed : new int[] {0, 1, FAR}) {
            due.is("seed(" + seed + ")", x.seed(seed), true);
        }
        due.is("status(5)", x.status(5), 5);
        due.is("it is no ACT", x.has(12), 1);
    }

    private static void p26OneAtFirst() {
        due.at("26 (It is 1 at first.)");
        ProtocolAtlas x = Due.of("agents 4 states i,w;on i to w;");
        ProtocolAtlas y = Due.of("agents 4 states i,w;on i to w;");
        y.seed(1);
        x.chance(2);
        y.chance(2);
        for (int a = 0; a < 4; a++) {
            due.is("as by the seed 1", x.now(a, 0), y.now(a, 0));
        }
        ProtocolAtlas z = new ProtocolAtlas();
        refused(z, 5, "seed(-1) without a table", () -> !z.seed(-1));
        Due.feed(z, "agents 4 states i,w;on i to w;");
        z.table();
        z.chance(1);
        due.is("the first draw of 1", z.now((int) (next(1) / 64 % 4), 0), 1);
    }

    private static void p27RowsOneToSix() {
        due.at("27 1 to 6 rows of two bytes");
        for (int bytes = 0; bytes <= 40; bytes++) {
            ProtocolAtlas x = Due.of(TOGGLE);
            Due.feed(x, new int[bytes]);
            boolean so = bytes >= 2 && bytes <= 12 && bytes % 2 == 0;
            due.is("see() of " + bytes + " bytes", x.see(0), so ? bytes / 2 : NONE);
            due.is("has(13)", x.has(13), so ? bytes / 2 : 0);
            due.is("status(1)", x.status(1), so ? 0 : 1);
        }
        ProtocolAtlas y = Due.of(TOGGLE);
        Due.feed(y, new int[1600]);
        due.is("see() of a full tape", y.see(0), NONE);
        // The last of six rows counts.
        Due.feed(y, 0, 2, 0, 2, 0, 2, 0, 2, 0, 2, 1, 1);
        due.is("six rows", y.see(0), 6);
        due.is("could(-1)", y.could(NONE), 0);
        Due.feed(y, 0, 2, 0, 2, 0, 2, 0, 2, 0, 2, 1, 0);
        due.is("six rows", y.see(0), 6);
        due.is("could(-1)", y.could(NONE), 1);
        // What is SEEN takes the place of what was, fewer rows that of more, too.
        Due.feed(y, 0, 1, 1, 1);
        due.is("two rows", y.see(1), 2);
        due.is("has(13)", y.has(13), 2);
        due.is("could(-1)", y.could(NONE), 1);
        Due.feed(y, 0, 2);
        due.is("one row", y.see(0), 1);
        due.is("has(13)", y.has(13), 1);
        due.is("could(-1)", y.could(NONE), 1);
        due.is("could(0)", y.could(0), 0);
    }

    private static void p27StatesAndNumbers() {
        due.at("27 (a STATE, 0 .. 4)");
        for (int states = 1; states <= 6; states++) {
            String names = "a,b,c,d,e,f".substring(0, 2 * states - 1);
            for (int b : new int[] {0, states - 1, states, 6, 7, 128, 254, 255}) {
                ProtocolAtlas x = Due.of("agents 2 states " + names + ";");
                Due.feed(x, b, 0);
                due.is("see() of STATE " + b + " of " + states, x.see(0), b < states ? 1 : NONE);
                Due.feed(x, 0, 0, b, 0);
                due.is("see() of STATE " + b + " of " + states, x.see(0), b < states ? 2 : NONE);
            }
        }
        for (int b : new int[] {0, 1, 2, 3, 4, 5, 6, 127, 128, 255}) {
            // Two agents alone, but 3 and 4 can be told.
            ProtocolAtlas x = Due.of(TOGGLE);
            Due.feed(x, 0, b);
            due.is("see() of " + b, x.see(0), b <= 4 ? 1 : NONE);
            due.is("could(-1)", x.could(NONE), b <= 4 && b != 2 ? 0 : 1);
            Due.feed(x, 0, 1, 1, b);
            due.is("see() of " + b, x.see(0), b <= 4 ? 2 : NONE);
        }
    }

    private static void p27MovesZeroToSix() {
        due.at("27 n MOVES (0 .. 6)");
        ProtocolAtlas x = Due.of(TOGGLE);
        for (int n = -3; n <= 10; n++) {
            Due.feed(x, 0, n % 2 == 0 ? 2 : 1);
            due.is("see(" + n + ")", x.see(n), n >= 0 && n <= 6 ? 1 : NONE);
        }
        for (int n : NEVER) {
            Due.feed(x, 0, 1);
            due.is("see(" + n + ")", x.see(n), NONE);
        }
        due.is("status(1)", x.status(1), 3 + 4 + NEVER.length);
        due.is("the latest that was seen is behind 6", x.could(0), 0);
    }

    private static void p27RefusedAllStays() {
        due.at("27 NONE, refused (1), all staying");
        ProtocolAtlas x = Due.of(TOGGLE);
        x.move(0, 0);
        Due.feed(x, 0, 1, 1, 1);
        x.see(2);
        int[][] wrong = {{}, {0}, {0, 1, 0}, {2, 0}, {0, 5}, {1, 1, 2, 1}, {1, 1, 1, 5}, new int[14]};
        for (int[] bytes : wrong) {
            Due.feed(x, bytes);
            refused(x, 1, "see(0) of " + bytes.length + " bytes", () -> x.see(0) == NONE);
        }
        for (int n : new int[] {-1, 7, LOW, FAR}) {
            Due.feed(x, 0, 2);
            refused(x, 1, "see(" + n + ")", () -> x.see(n) == NONE);
        }
        due.is("MOVES since", x.could(0), 1);
        ProtocolAtlas y = new ProtocolAtlas();
        Due.feed(y, 0, 0);
        refused(y, 1, "see(0) without a table", () -> y.see(0) == NONE);
        // Nothing of it is there with the first table.
        Due.feed(y, TOGGLE);
        y.table();
        due.is("has(13)", y.has(13), 0);
    }

    private static void p27TapeGoes() {
        due.at("27 The tape (it goes)");
        ProtocolAtlas x = new ProtocolAtlas();
        Due.feed(x, 0, 0);
        x.see(0);
        isEmptyTape(x);
        Due.feed(x, TOGGLE);
        x.table();
        Due.feed(x, 0, 0);
        due.is("see(0)", x.see(0), 1);
        isEmptyTape(x);
        Due.feed(x, 0, 0);
        due.is("see(7)", x.see(7), NONE);
        isEmptyTape(x);
        Due.feed(x, 0, 0, 0);
        due.is("see(0)", x.see(0), NONE);
        isEmptyTape(x);
    }

    private static void p28NothingSeen() {
        due.at("28 (if nothing is, by no row, behind 0 MOVES)");
        ProtocolAtlas x = Due.of(ONEWAY);
        for (int w = 0; w < 10; w++) {
            x.jump(w);
            due.is("could(-1)", x.could(NONE), 1);
            due.is("could(0)", x.could(0), w);
            due.is("could(1)", x.could(1), NONE);
        }
        // By the walk as it is: undone, moved, by an image.
        x.undo();
        due.is("could(0)", x.could(0), 8);
        x.move(1, 0);
        due.is("could(0)", x.could(0), 9);
    }

    private static void p28NoneSuch() {
        due.at("28 how many (k NONE), the k-th, rising. NONE when there is none such, or without a table");
        ProtocolAtlas x = Due.of("agents 3 states i,w,h;on i to w;on i to h;on w to h;on h to h;");
        Due.feed(x, 0, 1);
        x.see(3);
        int many = x.could(NONE);
        due.is("some", many, 2);
        for (int k = 1; k < many; k++) {
            due.is("rising", x.could(k - 1) < x.could(k), true);
        }
        for (int bad : NEVER) {
            due.is("could(" + bad + ")", x.could(bad), NONE);
        }
        due.is("could of how many there are", x.could(many), NONE);
        due.is("could of the last", x.could(many - 1) != NONE, true);
        Due.feed(x, 0, 4);
        x.see(0);
        due.is("none: how many", x.could(NONE), 0);
        due.is("none: could(0)", x.could(0), NONE);
        ProtocolAtlas y = new ProtocolAtlas();
        due.is("without a table", y.could(NONE), NONE);
        due.is("without a table", y.could(0), NONE);
    }

    private static void p28BehindAnotherTable() {
        due.at("28 COULD is of the latest table, the latest see(), THE WALK as it is");
        ProtocolAtlas x = Due.of(TOGGLE);
        Due.feed(x, 0, 0, 1, 2);
        x.see(2);
        due.is("could(0)", x.could(0), 2);
        due.is("could(-1)", x.could(NONE), 1);
        Due.feed(x, ONEWAY);
        x.table();
        due.is("another table", x.could(0), 0);
        due.is("another table", x.could(NONE), 1);
        due.is("tells(1)", x.tells(1), 1);
        Due.feed(x, 0, 1);
        x.see(2);
        due.is("another see()", x.could(0), 3);
        Due.feed(x, 2, 1);
        x.see(2);
        due.is("another see()", x.could(0), 2);
        x.move(0, 0);
        due.is("behind a move", x.could(0), 4);
        x.undo();
        due.is("undone", x.could(0), 2);
    }

    private static void p29WithoutAny() {
        due.at("29 NONE without any");
        ProtocolAtlas x = Due.of(TOGGLE);
        Due.feed(x, 0, 3);
        x.see(0);
        due.is("tells(0)", x.tells(0), NONE);
        due.is("tells(1)", x.tells(1), NONE);
        ProtocolAtlas y = Due.of("agents 2 states i,w;on i to w;");
        Due.feed(y, 1, 2);
        y.see(3);
        due.is("no three moves: tells(0)", y.tells(0), NONE);
        due.is("no three moves: tells(1)", y.tells(1), NONE);
        y.see(9);
        due.is("still", y.tells(0), NONE);
    }

    private static void p29Others() {
        due.at("29 NONE .. for others, or without a table");
        ProtocolAtlas x = Due.of(TOGGLE);
        due.is("nothing seen: the first STATE", x.tells(0), 0);
        due.is("nothing seen: one is left", x.tells(1), 1);
        for (int what : new int[] {LOW, -2, -1, 2, 3, FAR}) {
            due.is("tells(" + what + ")", x.tells(what), NONE);
        }
        ProtocolAtlas y = new ProtocolAtlas();
        due.is("without a table", y.tells(0), NONE);
        due.is("without a table", y.tells(1), NONE);
    }

    private static void p29AllAgents() {
        due.at("29 by the number of AGENTS in a STATE: all of them, too");
        for (int agents = 2; agents <= 4; agents++) {
            ProtocolAtlas x = Due.of("agents " + agents + " states i,w;on i to w;on i to i;");
            due.is("all in i", x.tells(0), 0);
            due.is("all in i", x.tells(1), 1);
            Due.feed(x, 1, 0);
            x.see(0);
            due.is("none in w", x.could(NONE), 1);
            x.jump(x.has(5) - 1);
            Due.feed(x, 1, agents);
            x.see(0);
            due.is("all in w", x.could(NONE), 1);
            due.is("all in w", x.tells(0), 0);
            due.is("all in w", x.tells(1), 1);
        }
    }

    private static void p30NoneSuch() {
        due.at("30 NONE when there is none such");
        ProtocolAtlas x = busy();
        for (int bad : NEVER) {
            due.is("spell(" + bad + ")", x.spell(bad), NONE);
        }
        due.is("spell(-1)", x.spell(-1), NONE);
        due.is("spell(9)", x.spell(9), NONE);
        isText("nothing is refused", counted(x), "0 0 0 0 0 0 ");
        due.is("what was written stays", x.octet(9) != NONE, true);
        due.is("what was written stays", x.octet(10), NONE);
        due.is("spell(8)", x.spell(8), "busy i!rel w!req".length());
        due.is("spell(0)", x.spell(0), "free i i".length());
        due.is("none behind it", x.octet(8), NONE);
        due.is("the last byte", x.octet(7), 'i');
    }

    private static void p31OfNone() {
        due.at("31 NONE, refused (5), when it is of none");
        ProtocolAtlas x = busy();
        String[] texts = {"", " ", "free i i ", " free i i", "free i i\n", "free i", "free ii", "free i i i", "free  i i",
            "Free i i", "free i w", "free w!req i", "busy w<ok> i", "busy i w<ok", "busy i wok>", "busy i w<>", "busy i w<ok,>",
            "- i i", "busy i i", "free i i!", "free i w!req!req", "free i w!req;", "free\ti i", "free i\u00e9 i",
            " ".repeat(1600), "free i i" + " ".repeat(1592)};
        for (String text : texts) {
            Due.feed(x, text);
            refused(x, 5, "which() of \"" + text.trim() + "\" " + text.length(), () -> x.which() == NONE);
        }
        for (int w = 0; w < 9; w++) {
            int[] text = Due.written(x, x.spell(w));
            Due.feed(x, text);
            due.is("which() of " + w, x.which(), w);
        }
        ProtocolAtlas y = new ProtocolAtlas();
        Due.feed(y, "- i i");
        refused(y, 5, "which() without a table", () -> y.which() == NONE);
        refused(y, 5, "which() of nothing without a table", () -> y.which() == NONE);
        // A text of the table ahead is of none.
        Due.feed(x, TOGGLE);
        x.table();
        Due.feed(x, "free i i");
        due.is("which()", x.which(), NONE);
        Due.feed(x, "- i i");
        due.is("which()", x.which(), 0);
    }

    private static void p31TapeGoes() {
        due.at("31 The tape (it goes)");
        ProtocolAtlas x = new ProtocolAtlas();
        Due.feed(x, "- i i");
        x.which();
        isEmptyTape(x);
        Due.feed(x, TOGGLE);
        x.table();
        Due.feed(x, "- i w");
        due.is("which()", x.which(), 1);
        isEmptyTape(x);
        Due.feed(x, "- w i");
        due.is("which()", x.which(), NONE);
        isEmptyTape(x);
        due.is("THE WALK stays", x.now(NONE, 1), 0);
    }

    private static void p32WithoutATable() {
        due.at("32 NONE without a table");
        ProtocolAtlas x = new ProtocolAtlas();
        due.is("image()", x.image(), NONE);
        due.is("octet(0)", x.octet(0), NONE);
        isText("nothing is refused", counted(x), "0 0 0 0 0 0 ");
        Due.feed(x, "nonsense");
        x.table();
        due.is("image()", x.image(), NONE);
        Due.feed(x, TOGGLE);
        x.table();
        due.is("image()", x.image(), 10);
        due.is("image() once more", x.image(), 10);
    }

    private static void p33NoneSuch() {
        due.at("33 NONE when there is none such");
        ProtocolAtlas x = Due.of(TOGGLE);
        due.is("nothing is written", x.octet(0), NONE);
        x.image();
        for (int bad : NEVER) {
            due.is("octet(" + bad + ")", x.octet(bad), NONE);
        }
        due.is("octet(-1)", x.octet(-1), NONE);
        due.is("octet(0)", x.octet(0), 255);
        due.is("octet(9)", x.octet(9) != NONE, true);
        due.is("octet(10)", x.octet(10), NONE);
        x.spell(0);
        due.is("octet(4)", x.octet(4), 'i');
        due.is("a shorter one leaves nothing", x.octet(5), NONE);
        x.image();
        due.is("a longer one is whole", x.octet(8), 255);
    }

    private static void p33WrittenLast() {
        due.at("33 Byte k of what spell(), image() wrote last");
        ProtocolAtlas x = Due.of(TOGGLE);
        x.spell(2);
        x.move(0, 0);
        x.jump(1);
        x.spell(99);
        Due.feed(x, "- i i");
        x.which();
        Due.feed(x, "nonsense");
        x.table();
        Due.feed(x, 0, 1);
        x.see(1);
        x.on();
        isText("it stays", Due.textOf(Due.written(x, 5)), "- w w");
        Due.feed(x, ONEWAY);
        x.table();
        isText("behind another table, too", Due.textOf(Due.written(x, 5)), "- w w");
        due.is("octet(5)", x.octet(5), NONE);
    }

    private static void p34OfThisTable() {
        due.at("34 The tape (it goes) is AN IMAGE of this TABLE: true, THE WALK is as it tells");
        ProtocolAtlas x = Due.of(LOCK);
        for (int w = 0; w < 9; w++) {
            x.jump(w);
            int[] image = Due.written(x, x.image());
            ProtocolAtlas y = Due.of(LOCK);
            Due.feed(y, image);
            due.is("on() of " + w, y.on(), true);
            isEmptyTape(y);
            due.is("now(-1, 1)", y.now(NONE, 1), w);
            // The other way round it is reached, too, and stays so.
            int[] turned = imageOf(image[0], image[5], image[6], image[7], image[8], image[1], image[2], image[3], image[4]);
            Due.feed(y, turned);
            due.is("on() of " + w + " turned", y.on(), true);
            due.is("now(-1, 1)", y.now(NONE, 1), w);
            for (int what = 0; what < 4; what++) {
                due.is("now(0, " + what + ")", y.now(0, what), x.agent(w, 1, what));
                due.is("now(1, " + what + ")", y.now(1, what), x.agent(w, 0, what));
            }
            due.is("status(5)", y.status(5), 0);
        }
    }

    private static void p34NotAnImage() {
        due.at("34 false, refused (5), .. when it is none");
        ProtocolAtlas x = busy();
        int[] first = imageOf(0, 0, 255, 255, 255, 0, 255, 255, 255);
        for (int n = 0; n <= 30; n++) {
            if (n != 10) {
                int[] bytes = java.util.Arrays.copyOf(first, n);
                Due.feed(x, bytes);
                refused(x, 5, "on() of " + n + " bytes", () -> !x.on());
            }
        }
        for (int agents : new int[] {1, 3, 4, 5}) {
            int[] bytes = new int[1 + 4 * agents];
            java.util.Arrays.fill(bytes, 255);
            bytes[0] = 0;
            for (int a = 0; a < agents; a++) {
                bytes[1 + 4 * a] = 0;
            }
            Due.feed(x, imageOf(bytes));
            refused(x, 5, "on() of " + agents + " agents", () -> !x.on());
        }
        for (int change = 1; change < 256; change++) {
            int[] bytes = first.clone();
            bytes[9] = bytes[9] + change & 255;
            Due.feed(x, bytes);
            due.is("on() of a check that is " + change + " off", x.on(), false);
        }
        // One byte that is none of what it tells, with the check that fits.
        int[] most = {2, 3, 3, 3, 3, 3, 3, 3, 3};
        for (int k = 0; k < 9; k++) {
            for (int b : new int[] {most[k], most[k] + 1, 6, 7, 127, 128, 251, 254, k % 4 == 1 ? 255 : 254}) {
                int[] bytes = java.util.Arrays.copyOf(first, 9);
                bytes[k] = b;
                Due.feed(x, imageOf(bytes));
                due.is("on() with " + b + " as byte " + k, x.on(), false);
            }
        }
        Due.feed(x, first);
        due.is("on() of the first world", x.on(), true);
        Due.feed(x, new int[1600]);
        due.is("on() of a full tape", x.on(), false);
    }

    private static void p34NotReached() {
        due.at("34 .. of a WORLD that is not REACHED");
        ProtocolAtlas x = Due.of(LOCK);
        int[][] worlds = {{1, 0, 255, 255, 255, 0, 255, 255, 255}, {255, 0, 255, 255, 255, 0, 255, 255, 255},
            {0, 2, 255, 255, 255, 0, 255, 255, 255}, {1, 2, 255, 255, 255, 2, 255, 255, 255},
            {0, 0, 255, 255, 255, 1, 255, 255, 1}, {1, 1, 255, 1, 255, 0, 255, 255, 255},
            {1, 1, 1, 1, 255, 0, 255, 255, 255}, {0, 1, 255, 255, 255, 0, 255, 255, 255}};
        for (int[] world : worlds) {
            Due.feed(x, imageOf(world));
            refused(x, 5, "on() of " + java.util.Arrays.toString(world), () -> !x.on());
        }
        // By order loose the lesser is first; a second one without a first is nothing.
        ProtocolAtlas y = Due.of("agents 2 states i;order loose;home s;messages m,n;on i to i sends m;on i to i sends n;"
                + "at s with m to s replies m;at s with n to s replies n;");
        Due.feed(y, imageOf(0, 0, 0, 1, 255, 0, 255, 255, 255));
        due.is("m, n", y.on(), true);
        Due.feed(y, imageOf(0, 0, 1, 0, 255, 0, 255, 255, 255));
        refused(y, 5, "on() of n, m", () -> !y.on());
        Due.feed(y, imageOf(0, 0, 255, 0, 255, 0, 255, 255, 255));
        refused(y, 5, "on() of a second without a first", () -> !y.on());
        ProtocolAtlas z = Due.of("agents 2 states i,w;on w to i;");
        Due.feed(z, imageOf(255, 1, 255, 255, 255, 0, 255, 255, 255));
        refused(z, 5, "on() of w", () -> !z.on());
    }

    /** Whichever one byte of an image is another one, it is one only if that is a world that is reached, too. */
    private static void p34AnyOtherByte() {
        due.at("34 AN IMAGE of this TABLE, of a WORLD that is REACHED: each byte, each value");
        anyOtherByte(LOCK, 16);
        anyOtherByte("agents 2 states a,b,c,d,e,f;home s,t,u,v,w,x;messages m,n,o,p,q,r;on a to a sends m;on a to b;"
                + "on b to b sends n;at s with m to t replies m;at t with m to u replies m;at t with n to u replies n;", 0);
        anyOtherByte("agents 2 states i;home s,t,u;messages m;on i to i sends m;at s with m to t;at t with m to u;", 12);
        anyOtherByte("agents 2 states e,f,a;on e to f;", 4);
    }

    private static void anyOtherByte(String text, int worlds) {
        ProtocolAtlas x = Due.of(text);
        java.util.Set<String> reached = new java.util.HashSet<>();
        java.util.List<int[]> images = new java.util.ArrayList<>();
        for (int w = 0; w < x.has(5); w++) {
            x.jump(w);
            int[] i = Due.written(x, x.image());
            int[] turned = imageOf(i[0], i[5], i[6], i[7], i[8], i[1], i[2], i[3], i[4]);
            images.add(i);
            images.add(turned);
            reached.add(java.util.Arrays.toString(i));
            reached.add(java.util.Arrays.toString(turned));
        }
        due.is("there are some", reached.size(), worlds > 0 ? worlds : x.has(6));
        for (int[] image : images) {
            for (int k = 0; k < 9; k++) {
                ProtocolAtlas y = Due.of(text);
                for (int b = 0; b < 256; b += b < 20 || b > 240 ? 1 : 7) {
                    int[] bytes = java.util.Arrays.copyOf(image, 9);
                    bytes[k] = b;
                    bytes = imageOf(bytes);
                    String shown = java.util.Arrays.toString(bytes);
                    Due.feed(y, bytes);
                    due.is("on() of " + shown, y.on(), reached.contains(shown));
                }
            }
        }
    }

    private static void p34RefusedAllStays() {
        due.at("34 refused (5), all staying, .. or without a table");
        ProtocolAtlas x = new ProtocolAtlas();
        Due.feed(x, imageOf(255, 0, 255, 255, 255, 0, 255, 255, 255));
        refused(x, 5, "on() without a table", () -> !x.on());
        isEmptyTape(x);
        refused(x, 5, "on() of nothing without a table", () -> !x.on());
        ProtocolAtlas y = busy();
        y.seed(8);
        Due.feed(y, imageOf(1, 0, 255, 255, 255, 0, 255, 255, 255));
        refused(y, 5, "on()", () -> !y.on());
        isEmptyTape(y);
        due.is("ACTS stay", y.has(12), 3);
        for (int k = 0; k < 3; k++) {
            due.is("undo()", y.undo(), true);
        }
        y.chance(1);
        due.is("the seed stays", y.now((int) (next(8) / 64 % 2), 0), 1);
    }

    private static void p34NothingCanBeUndone() {
        due.at("34 true, .. nothing can be undone");
        ProtocolAtlas x = busy();
        x.seed(6);
        Due.feed(x, imageOf(0, 0, 255, 255, 255, 0, 255, 255, 255));
        due.is("on()", x.on(), true);
        due.is("has(12)", x.has(12), 0);
        refused(x, 4, "undo()", () -> !x.undo());
        due.is("SEEN stays", x.has(13), 2);
        due.is("COULD by the new walk", x.could(NONE), 0);
        x.chance(1);
        due.is("the seed stays", x.now((int) (next(6) / 64 % 2), 0), 1);
        due.is("that can be undone", x.has(12), 1);
        due.is("undo()", x.undo(), true);
        due.is("to the image's world", x.now(NONE, 1), 0);
    }

    private static void p35EachCounter() {
        due.at("35 How many were refused");
        ProtocolAtlas x = Due.of(TOGGLE);
        isText("none", counted(x), "0 0 0 0 0 0 ");
        x.end(-1);
        isText("end()", counted(x), "1 0 0 0 0 0 ");
        for (int k = 0; k < 81; k++) {
            x.feed(0, 0, 0, 0, 0);
        }
        isText("feed()", counted(x), "2 0 0 0 0 0 ");
        x.table();
        isText("table()", counted(x), "2 1 0 0 0 0 ");
        x.see(0);
        isText("see()", counted(x), "2 2 0 0 0 0 ");
        x.move(1, 0);
        isText("move()", counted(x), "2 2 1 0 0 0 ");
        x.jump(3);
        isText("jump()", counted(x), "2 2 2 0 0 0 ");
        x.chance(0);
        isText("chance()", counted(x), "2 2 2 1 0 0 ");
        x.undo();
        isText("undo()", counted(x), "2 2 2 1 1 0 ");
        x.seed(-1);
        isText("seed()", counted(x), "2 2 2 1 1 1 ");
        x.which();
        isText("which()", counted(x), "2 2 2 1 1 2 ");
        x.on();
        isText("on()", counted(x), "2 2 2 1 1 3 ");
        // A table, a good one or not, leaves them.
        Due.feed(x, LOCK);
        x.table();
        isText("a table", counted(x), "2 2 2 1 1 3 ");
    }

    private static void p35OthersCountNothing() {
        due.at("35 only those are counted");
        ProtocolAtlas x = Due.of(TOGGLE);
        for (int a : ANY) {
            x.fault(a);
            x.has(a);
            x.letter(a, a, a);
            x.rule(a, a);
            x.world(a, a);
            x.agent(a, a, a);
            x.leads(a, a, a);
            x.way(a, a, a);
            x.first(a);
            x.part(a, a);
            x.starving(a);
            x.uses(a);
            x.without(a, a);
            x.now(a, a);
            x.can(a, a);
            x.could(a);
            x.tells(a);
            x.spell(a);
            x.octet(a);
            x.status(a);
        }
        x.returns();
        x.mend();
        x.image();
        isText("none", counted(x), "0 0 0 0 0 0 ");
        x.move(0, 0);
        x.jump(0);
        x.chance(1);
        x.undo();
        x.seed(0);
        isText("what is not refused", counted(x), "0 0 0 0 0 0 ");
    }

    private static void p35Others() {
        due.at("35 NONE for others");
        ProtocolAtlas x = new ProtocolAtlas();
        for (int what : new int[] {LOW, LOW + 1, -6, -2, -1, 6, 7, 64, 600, FAR - 1, FAR}) {
            due.is("status(" + what + ")", x.status(what), NONE);
        }
        for (int what = 0; what < 6; what++) {
            due.is("status(" + what + ")", x.status(what), 0);
        }
    }
}
