/** Terms II and III of the document, sentence by sentence: the edges of worlds, moves, the walk, texts and images. */
public final class EdgeWorldTest {
    private static final Due due = new Due();
    private static final int NONE = ProtocolAtlas.NONE;

    /** One agent's IN and OUT can be anything; rules 0, 1 send, 2, 3 let the home reply, 4, 5 take. */
    private static final String HELD = "home s;messages m,n;on i to i sends m;on i to i sends n;"
            + "at s with m to s replies m;at s with n to s replies n;on i with m to i;on i with n to i;";
    private static final String KEPT = "agents 2 states i;" + HELD;
    private static final String LOOSE = "agents 2 states i;order loose;" + HELD;

    public static void main(String[] args) {
        firstWorld();
        withoutHomeAndMessages();
        inTwoAtMostByReplies();
        inTwoAtMostByTells();
        outOneAtMost();
        sixOfEach();
        onIfInTheState();
        withOnlyIfTaken();
        takenGoes();
        oneOfTwoAlikeGoes();
        withAndSends();
        atIfTheHomeIs();
        atIfOutHasTheMessage();
        outGoes();
        noneIsOfOthers();
        someIsOfOthers();
        repliesAndTells();
        roomForTheReply();
        roomForAllTold();
        whatCantBeChangesNothing();
        looseTakesAny();
        looseHoldsTheLesserFirst();
        keptHoldsAsItCame();
        changesNothing();
        reachedAlone();
        foldedAgentsRise();
        foldedByStateFirst();
        standsForSoMany();
        depthIsFewest();
        numbersByDepthHomeAgents();
        badAtLeast();
        badAllCounts();
        badByOneNever();
        badNumbersBeyondTheAgents();
        badFullOfCounts();
        stuck();
        theWayIsShortest();
        theWayIsLeast();
        theWayOfAgentsAsTheyAre();
        parts();
        partEnds();
        starves();
        starvesNoneAtAllToo();
        starveAlike();
        leftOutNeedsAMove();
        leftOutByOwnRules();
        leftOutByRulesOnAlone();
        leftOutAsManyAsThereAre();
        leftOutNeverInB();
        leftOutBehindB();
        leftOutNoneAtAllToo();
        withoutWantsNobody();
        walkFirst();
        lastTwentyActs();
        drawsWrapAround();
        drawsByRuleThenAgent();
        drawsOfManyRules();
        drawOfOne();
        noDrawWithoutMoves();
        withoutARule();
        withoutStuckOnes();
        couldJustSoMany();
        telling();
        textOfAWorld();
        textsWithLongestNames();
        imageOfTheWalk();
        due.finish();
    }

    private static String spelled(ProtocolAtlas x, int world) {
        return Due.textOf(Due.written(x, x.spell(world)));
    }

    /** All folded worlds by their numbers. */
    private static String allSpelled(ProtocolAtlas x) {
        StringBuilder all = new StringBuilder();
        for (int w = 0; w < x.has(5); w++) {
            all.append(w > 0 ? "|" : "").append(spelled(x, w));
        }
        return all.toString();
    }

    private static void isText(String what, String got, String want) {
        due.is(what + " \"" + got + "\" and not \"" + want + "\"", got.equals(want), true);
    }

    /** The walk, agents as they are: the home, then of each agent what it has. */
    private static String walk(ProtocolAtlas x) {
        StringBuilder all = new StringBuilder().append(x.now(NONE, 0));
        for (int a = 0; a < x.has(0); a++) {
            all.append(" ").append(x.now(a, 0)).append(",").append(x.now(a, 1)).append(",").append(x.now(a, 2))
                    .append(",").append(x.now(a, 3));
        }
        return all.toString();
    }

    /** Each two numbers are the rule and the agent of a move that can be. */
    private static void go(ProtocolAtlas x, int... moves) {
        for (int k = 0; k < moves.length; k += 2) {
            due.is("move(" + moves[k] + ", " + moves[k + 1] + ") can be", x.move(moves[k], moves[k + 1]) != NONE, true);
        }
    }

    /** The three ways to ask must agree on whether the move can be from the walk. */
    private static void can(ProtocolAtlas x, int rule, int agent, int want) {
        due.is("can(" + rule + ", " + agent + ")", x.can(rule, agent), want);
        if (want == 0) {
            String ahead = walk(x);
            due.is("move(" + rule + ", " + agent + ")", x.move(rule, agent), NONE);
            isText("the walk stays", walk(x), ahead);
        }
    }

    private static void firstWorld() {
        due.at("II the first one: the first HOME, all AGENTS in the first STATE, nothing in IN, OUT");
        for (int agents = 2; agents <= 4; agents++) {
            ProtocolAtlas x = Due.of("agents " + agents + " states b,a;home t,s;messages m;on a to b;");
            isText("spell(0)", spelled(x, 0), "t" + " b".repeat(agents));
            isText("the walk", walk(x), "0" + " 0,-1,-1,-1".repeat(agents));
        }
    }

    private static void withoutHomeAndMessages() {
        due.at("II Without home, messages there are none; no HOME is NONE");
        ProtocolAtlas x = Due.of("agents 2 states i,w;on i to w;");
        due.is("has(2)", x.has(2), 0);
        due.is("has(3)", x.has(3), 0);
        due.is("world(0, 2)", x.world(0, 2), NONE);
        due.is("world(1, 2)", x.world(1, 2), NONE);
        due.is("now(-1, 0)", x.now(NONE, 0), NONE);
        due.is("letter(1, 0, 0)", x.letter(1, 0, 0), NONE);
        due.is("letter(2, 0, 0)", x.letter(2, 0, 0), NONE);
        // A table ahead that had both leaves none.
        ProtocolAtlas y = Due.of(KEPT);
        Due.feed(y, "agents 2 states i,w;on i to w;");
        y.table();
        due.is("has(2)", y.has(2), 0);
        due.is("has(3)", y.has(3), 0);
        due.is("world(0, 2)", y.world(0, 2), NONE);
        due.is("now(-1, 0)", y.now(NONE, 0), NONE);
        ProtocolAtlas z = Due.of("agents 2 states i,w;messages m;on i to w sends m;");
        due.is("messages alone", z.has(3), 1);
        due.is("messages alone", z.world(1, 2), NONE);
        due.is("home alone", Due.of("agents 2 states i;home s;").world(0, 2), 0);
    }

    private static void inTwoAtMostByReplies() {
        due.at("II an IN of 2 MESSAGES at most: what it replies");
        ProtocolAtlas x = Due.of(KEPT);
        go(x, 0, 0, 2, 0);
        isText("one", walk(x), "0 0,0,-1,-1 0,-1,-1,-1");
        go(x, 0, 0, 2, 0);
        isText("two", walk(x), "0 0,0,0,-1 0,-1,-1,-1");
        go(x, 0, 0);
        can(x, 2, 0, 0);
        isText("it still has it in OUT", walk(x), "0 0,0,0,0 0,-1,-1,-1");
        // One is taken: there is room again.
        go(x, 4, 0);
        can(x, 2, 0, 1);
    }

    private static void inTwoAtMostByTells() {
        due.at("II an IN of 2 MESSAGES at most: what it tells");
        ProtocolAtlas x = Due.of("agents 2 states i;home s;messages m;on i to i sends m;at s with m to s tells m;"
                + "on i with m to i;");
        go(x, 0, 0, 1, 0, 0, 0, 1, 0, 0, 0);
        isText("two", walk(x), "0 0,-1,-1,0 0,0,0,-1");
        can(x, 1, 0, 0);
        go(x, 2, 1);
        can(x, 1, 0, 1);
        due.is("no world has more than 3 messages of an agent", x.has(6), 36);
    }

    private static void outOneAtMost() {
        due.at("II an OUT of 1 at most; sending only if its OUT has none");
        ProtocolAtlas x = Due.of("agents 2 states i,w;messages m,n;on i to w sends m;on w to i sends n;on w to i;"
                + "on i to i sends m;");
        go(x, 0, 0);
        due.is("which has that MESSAGE then", x.now(0, 3), 0);
        can(x, 1, 0, 0);
        can(x, 2, 0, 1);
        go(x, 2, 0);
        due.is("it still has it", x.now(0, 3), 0);
        can(x, 0, 0, 0);
        can(x, 3, 0, 0);
        can(x, 0, 1, 1);
        ProtocolAtlas y = Due.of("agents 2 states i,w;messages m,n;on i to w sends n;");
        go(y, 0, 1);
        due.is("which has that MESSAGE then", y.now(1, 3), 1);
        due.is("not the other one", y.now(0, 3), NONE);
    }

    private static void sixOfEach() {
        due.at("II the sixth STATE, HOME, MESSAGE in all places");
        ProtocolAtlas x = Due.of("agents 2 states a,b,c,d,e,f;home g,j,k,l,m,n;messages o,p,q,r,s,t;on a to f sends t;"
                + "at g with t to n replies t tells t;on f to f sends t;at n with t to n replies t;");
        go(x, 0, 0, 1, 0, 2, 0, 3, 0, 2, 0);
        isText("the walk", walk(x), "5 5,5,5,5 0,5,-1,-1");
        isText("folded", spelled(x, x.now(NONE, 1)), "n a<t> f<t,t>!t");
        go(x, 0, 1, 3, 1, 2, 1);
        isText("full", walk(x), "5 5,5,5,5 5,5,5,5");
        due.is("stands for one", x.world(x.now(NONE, 1), 1), 1);
        due.is("stuck", x.world(x.now(NONE, 1), 4), 1);
        due.is("the last by DEPTH", x.world(x.now(NONE, 1), 0), x.has(7));
        int[] image = Due.written(x, x.image());
        for (int k = 0; k < 9; k++) {
            due.is("octet(" + k + ")", image[k], 5);
        }
        due.is("undo()", x.undo(), true);
        Due.feed(x, image);
        due.is("on()", x.on(), true);
        isText("full", walk(x), "5 5,5,5,5 5,5,5,5");
    }

    private static void onIfInTheState() {
        due.at("II By on: if it is in the STATE that is told; it is in the STATE told last");
        ProtocolAtlas x = Due.of("agents 2 states i,w,h;on i to h;on w to i;on h to w;");
        int[][] can = {{1, 0, 0}, {0, 0, 1}, {0, 1, 0}};
        int[] states = {0, 2, 1};
        for (int k = 0; k < 3; k++) {
            due.is("now(0, 0)", x.now(0, 0), states[k]);
            for (int r = 0; r < 3; r++) {
                can(x, r, 0, can[k][r]);
                can(x, r, 1, can[0][r]);
            }
            go(x, k == 0 ? 0 : 3 - k, 0);
        }
        due.is("now(0, 0)", x.now(0, 0), 0);
    }

    private static void withOnlyIfTaken() {
        due.at("II with a MESSAGE only if that can be taken from its IN");
        ProtocolAtlas x = Due.of(KEPT);
        can(x, 4, 0, 0);
        go(x, 0, 0);
        can(x, 4, 0, 0);
        go(x, 2, 0);
        can(x, 4, 0, 1);
        can(x, 5, 0, 0);
        can(x, 4, 1, 0);
        go(x, 1, 0, 3, 0);
        isText("m came first, then n", walk(x), "0 0,0,1,-1 0,-1,-1,-1");
        can(x, 4, 0, 1);
        can(x, 5, 0, 0);
    }

    private static void takenGoes() {
        due.at("II .. from its IN, which it is then");
        ProtocolAtlas x = Due.of(KEPT);
        go(x, 1, 0, 3, 0, 0, 0, 2, 0);
        isText("n, then m", walk(x), "0 0,1,0,-1 0,-1,-1,-1");
        go(x, 5, 0);
        isText("the second is the first one then", walk(x), "0 0,0,-1,-1 0,-1,-1,-1");
        go(x, 4, 0);
        isText("nothing is left", walk(x), "0 0,-1,-1,-1 0,-1,-1,-1");
        can(x, 4, 0, 0);
    }

    private static void oneOfTwoAlikeGoes() {
        due.at("II a MESSAGE is taken: one of two alike");
        for (String text : new String[] {KEPT, LOOSE}) {
            ProtocolAtlas x = Due.of(text);
            go(x, 1, 0, 3, 0, 1, 0, 3, 0, 5, 0);
            isText("one is left", walk(x), "0 0,1,-1,-1 0,-1,-1,-1");
            go(x, 5, 0);
            isText("none is left", walk(x), "0 0,-1,-1,-1 0,-1,-1,-1");
            can(x, 5, 0, 0);
        }
    }

    private static void withAndSends() {
        due.at("II with and sends: both must be");
        ProtocolAtlas x = Due.of("agents 2 states i,w;home s;messages m,n;on i to i sends m;at s with m to s replies n;"
                + "on i with n to w sends m;");
        can(x, 2, 0, 0);
        go(x, 0, 0);
        can(x, 2, 0, 0);
        go(x, 1, 0);
        can(x, 2, 0, 1);
        go(x, 0, 0);
        // n is in IN, but OUT has one.
        can(x, 2, 0, 0);
        go(x, 1, 0, 2, 0);
        isText("n is taken, m is sent", walk(x), "0 1,1,-1,0 0,-1,-1,-1");
    }

    private static void atIfTheHomeIs() {
        due.at("II By at: if the HOME is the one told; the HOME is the one told last");
        ProtocolAtlas x = Due.of("agents 2 states i;home s,t,u;messages m;on i to i sends m;at s with m to u;"
                + "at t with m to s;at u with m to t;");
        int[] homes = {0, 2, 1, 0};
        int[] rules = {1, 3, 2};
        for (int k = 0; k < 3; k++) {
            go(x, 0, 0);
            due.is("the HOME", x.now(NONE, 0), homes[k]);
            for (int r = 1; r <= 3; r++) {
                can(x, r, 0, r == rules[k] ? 1 : 0);
            }
            go(x, rules[k], 0);
        }
        due.is("the HOME", x.now(NONE, 0), homes[3]);
    }

    private static void atIfOutHasTheMessage() {
        due.at("II By at: .. its OUT has the MESSAGE");
        ProtocolAtlas x = Due.of(KEPT);
        can(x, 2, 0, 0);
        can(x, 3, 0, 0);
        go(x, 1, 0);
        can(x, 2, 0, 0);
        can(x, 3, 0, 1);
        can(x, 3, 1, 0);
        go(x, 3, 0);
        // In IN it is not in OUT.
        can(x, 3, 0, 0);
    }

    private static void outGoes() {
        due.at("II By at: .. the MESSAGE, which goes");
        ProtocolAtlas x = Due.of("agents 2 states i,w;home s;messages m;on i to w sends m;at s with m to s;");
        go(x, 0, 0, 0, 1);
        isText("both have it", walk(x), "0 1,-1,-1,0 1,-1,-1,0");
        go(x, 1, 1);
        isText("one has it; its STATE stays", walk(x), "0 1,-1,-1,0 1,-1,-1,-1");
    }

    private static void noneIsOfOthers() {
        due.at("II with none, if no other AGENT is in that STATE");
        String text = "agents 4 states i,w;home s;messages m;on i to i sends m;on i to w;at s with m to s none w;";
        for (int a = 0; a < 4; a++) {
            for (int b = 0; b < 4; b++) {
                ProtocolAtlas x = Due.of(text);
                go(x, 0, a);
                can(x, 2, a, 1);
                go(x, 1, b);
                can(x, 2, a, a == b ? 1 : 0);
            }
        }
    }

    private static void someIsOfOthers() {
        due.at("II with some, if one other AGENT at least is in that STATE");
        String text = "agents 4 states i,w;home s;messages m;on i to i sends m;on i to w;at s with m to s some w;";
        for (int a = 0; a < 4; a++) {
            for (int b = 0; b < 4; b++) {
                ProtocolAtlas x = Due.of(text);
                go(x, 0, a);
                can(x, 2, a, 0);
                go(x, 1, b);
                can(x, 2, a, a == b ? 0 : 1);
                int c = (b + 1) % 4;
                go(x, 1, c);
                can(x, 2, a, 1);
            }
        }
    }

    private static void repliesAndTells() {
        due.at("II what it replies comes into its IN, what it tells into the IN of each other AGENT");
        for (int a = 0; a < 3; a++) {
            ProtocolAtlas x = Due.of("agents 3 states i;home s;messages k,m,n;on i to i sends k;"
                    + "at s with k to s replies m tells n;");
            go(x, 0, a, 1, a);
            for (int b = 0; b < 3; b++) {
                due.is("IN of " + b, x.now(b, 1), a == b ? 1 : 2);
                due.is("only one", x.now(b, 2), NONE);
                due.is("OUT of " + b, x.now(b, 3), NONE);
            }
        }
    }

    private static void roomForTheReply() {
        due.at("II only if all these have room for it: the reply");
        ProtocolAtlas x = Due.of("agents 2 states i;home s;messages m;on i to i sends m;at s with m to s replies m;"
                + "at s with m to s;at s with m to s tells m;");
        go(x, 0, 0, 1, 0, 0, 0, 1, 0, 0, 0);
        can(x, 1, 0, 0);
        // Without a reply it needs no room itself.
        can(x, 2, 0, 1);
        can(x, 3, 0, 1);
    }

    private static void roomForAllTold() {
        due.at("II only if all these have room for it: each one that is told");
        for (int full = 0; full < 3; full++) {
            for (int a = 0; a < 3; a++) {
                ProtocolAtlas x = Due.of("agents 3 states i;home s;messages m;on i to i sends m;"
                        + "at s with m to s replies m;at s with m to s tells m;at s with m to s replies m tells m;");
                go(x, 0, full, 1, full, 0, full, 1, full, 0, a);
                can(x, 2, a, full == a ? 1 : 0);
                can(x, 3, a, 0);
            }
        }
    }

    private static void whatCantBeChangesNothing() {
        due.at("II a MOVE that can't be leads nowhere");
        ProtocolAtlas x = Due.of("agents 3 states i;home s,t;messages m;on i to i sends m;at s with m to s replies m;"
                + "at s with m to t replies m tells m;");
        go(x, 0, 2, 1, 2, 0, 2, 1, 2, 0, 0);
        String ahead = walk(x);
        int world = x.now(NONE, 1);
        can(x, 2, 0, 0);
        isText("the walk", walk(x), ahead);
        due.is("its folded world", x.now(NONE, 1), world);
        for (int a = 0; a < 3; a++) {
            due.is("leads(" + world + ", 2, " + a + ")", x.leads(world, 2, a), NONE);
        }
        due.is("the home stayed in all that can be", x.world(world, 2), 0);
    }

    private static void looseTakesAny() {
        due.at("II Taken from IN can be the one that came first, by order loose any");
        ProtocolAtlas x = Due.of(KEPT);
        ProtocolAtlas y = Due.of(LOOSE);
        for (ProtocolAtlas z : new ProtocolAtlas[] {x, y}) {
            go(z, 0, 0, 2, 0, 1, 0, 3, 0);
            can(z, 4, 0, 1);
        }
        can(x, 5, 0, 0);
        can(y, 5, 0, 1);
        go(y, 5, 0);
        isText("n went, m is left", walk(y), "0 0,0,-1,-1 0,-1,-1,-1");
        y.undo();
        go(y, 4, 0);
        isText("m went, n is left", walk(y), "0 0,1,-1,-1 0,-1,-1,-1");
    }

    private static void looseHoldsTheLesserFirst() {
        due.at("II By order loose the two in an IN are held the one of lesser number first, whichever came first");
        ProtocolAtlas x = Due.of(LOOSE);
        go(x, 1, 0, 3, 0, 0, 0, 2, 0, 0, 1, 2, 1, 1, 1, 3, 1);
        isText("by replies", walk(x), "0 0,0,1,-1 0,0,1,-1");
        ProtocolAtlas y = Due.of("agents 2 states i;order loose;home s;messages m,n;on i to i sends n;on i to i sends m;"
                + "at s with n to s tells n;at s with m to s tells m;");
        go(y, 0, 0, 2, 0, 1, 0, 3, 0);
        isText("by tells", walk(y), "0 0,-1,-1,-1 0,0,1,-1");
        go(x, 5, 0, 1, 0, 3, 0);
        isText("again", walk(x), "0 0,0,1,-1 0,0,1,-1");
    }

    private static void keptHoldsAsItCame() {
        due.at("II (order kept) the one that came first is first");
        ProtocolAtlas x = Due.of(KEPT);
        go(x, 1, 0, 3, 0, 0, 0, 2, 0, 0, 1, 2, 1, 1, 1, 3, 1);
        isText("as they came", walk(x), "0 0,1,0,-1 0,0,1,-1");
        // IN can be 1 + 2 + 4, OUT 3: 21 for each agent; by order loose IN can be 1 + 2 + 3.
        due.is("worlds kept", x.has(6), 21 * 21);
        due.is("worlds loose", Due.of(LOOSE).has(6), 18 * 18);
    }

    private static void changesNothing() {
        due.at("II A MOVE can be, whether or not it changes something");
        ProtocolAtlas x = Due.of("agents 2 states i;on i to i;");
        can(x, 0, 0, 1);
        due.is("leads(0, 0, 0)", x.leads(0, 0, 0), 0);
        due.is("move(0, 0)", x.move(0, 0), 0);
        due.is("it is an ACT", x.has(12), 1);
        due.is("it is a MOVE", x.has(8), 2);
        due.is("it is a MOVE", x.world(0, 5), 2);
        due.is("it is not STUCK", x.has(10), 0);
        due.is("it is used", x.uses(0), 2);
        due.is("by the seed, too", x.chance(100), 100);
    }

    private static void reachedAlone() {
        due.at("II REACHED are the first WORLD and those to which MOVES lead, and so on");
        ProtocolAtlas x = Due.of("agents 4 states i,w;on w to i;");
        int[] has = {4, 2, 0, 0, 1, 1, 1, 0, 0, 0, 1, 1, 0, 0};
        for (int what = 0; what < has.length; what++) {
            due.is("has(" + what + ")", x.has(what), has[what]);
        }
        due.is("jump(1)", x.jump(1), false);
        ProtocolAtlas y = Due.of("agents 2 states i,w,h,k;on i to w;on w to h;on k to i;");
        isText("worlds", allSpelled(y), "- i i|- i w|- i h|- w w|- w h|- h h");
    }

    private static void foldedAgentsRise() {
        due.at("II FOLDED: .. by what is first in IN, second, in OUT, by numbers (nothing is less than all MESSAGES)");
        // Of the moves that are told agent 0 has what is greater.
        int[][] moves = {
            {0, 0, 2, 0},
            {1, 0, 3, 0, 0, 1, 2, 1},
            {0, 0, 2, 0, 0, 0, 2, 0, 0, 1, 2, 1},
            {0, 0, 2, 0, 1, 0, 3, 0, 0, 1, 2, 1, 0, 1, 2, 1},
            {0, 0},
            {1, 0, 0, 1},
            {0, 0, 2, 0, 0, 1},
            {0, 0, 2, 0, 0, 0, 2, 0, 0, 1, 2, 1, 1, 1},
            {1, 0, 3, 0, 0, 1, 2, 1, 0, 1, 2, 1, 1, 1}};
        String[] texts = {"s i i<m>", "s i<m> i<n>", "s i<m> i<m,m>", "s i<m,m> i<m,n>", "s i i!m", "s i!m i!n",
            "s i!m i<m>", "s i<m>!n i<m,m>", "s i<m,m>!n i<n>"};
        for (int k = 0; k < moves.length; k++) {
            ProtocolAtlas x = Due.of(KEPT);
            go(x, moves[k]);
            isText("folded", spelled(x, x.now(NONE, 1)), texts[k]);
        }
    }

    private static void foldedByStateFirst() {
        due.at("II FOLDED is a WORLD with AGENTS rising: by STATE");
        ProtocolAtlas x = Due.of("agents 3 states i,w,h;home s,t;messages m;on i to w;on w to h;on i to i sends m;"
                + "at s with m to t replies m;");
        go(x, 0, 0, 1, 0, 0, 1, 2, 2, 3, 2);
        isText("folded", spelled(x, x.now(NONE, 1)), "t i<m> w h");
        isText("the walk is not", walk(x), "1 2,-1,-1,-1 1,-1,-1,-1 0,0,-1,-1");
    }

    private static void standsForSoMany() {
        due.at("II any WORLD is one of those that stand for it, each with AGENTS put otherwise");
        String[] rules = {"agents 2 states a,b,c,d;", "agents 3 states a,b,c,d;", "agents 4 states a,b,c,d;"};
        int[] worlds = {16, 64, 256};
        int[] folded = {10, 20, 35};
        int[] faculty = {1, 1, 2, 6, 24};
        for (int k = 0; k < 3; k++) {
            ProtocolAtlas x = Due.of(rules[k] + "on a to b;on b to c;on c to d;");
            due.is("has(5)", x.has(5), folded[k]);
            due.is("has(6)", x.has(6), worlds[k]);
            for (int w = 0; w < x.has(5); w++) {
                int[] many = new int[4];
                for (int a = 0; a < k + 2; a++) {
                    many[x.agent(w, a, 0)]++;
                }
                int ways = faculty[k + 2];
                for (int s = 0; s < 4; s++) {
                    ways /= faculty[many[s]];
                }
                due.is("world(" + w + ", 1)", x.world(w, 1), ways);
            }
        }
        // Alike in STATE is not alike.
        ProtocolAtlas y = Due.of(KEPT);
        go(y, 0, 0);
        due.is("i i!m stands for 2", y.world(y.now(NONE, 1), 1), 2);
        go(y, 0, 1);
        due.is("i!m i!m stands for 1", y.world(y.now(NONE, 1), 1), 1);
    }

    private static void depthIsFewest() {
        due.at("II DEPTH is the fewest MOVES from the first WORLD");
        ProtocolAtlas x = Due.of("agents 2 states a,b,c,d;on a to b;on b to c;on c to d;on a to d;on d to c;");
        // a a; one moves: a b, a d; then a c by either way.
        isText("worlds", allSpelled(x), "- a a|- a b|- a d|- a c|- b b|- b d|- d d|- b c|- c d|- c c");
        int[] depth = {0, 1, 1, 2, 2, 2, 2, 3, 3, 4};
        for (int w = 0; w < depth.length; w++) {
            due.is("world(" + w + ", 0)", x.world(w, 0), depth[w]);
        }
        due.is("the greatest", x.has(7), 4);
    }

    private static void numbersByDepthHomeAgents() {
        due.at("II numbers from 0 on: by DEPTH, then by HOME, then AGENT by AGENT as above, rising");
        ProtocolAtlas x = Due.of("agents 2 states a,b;home s,t;messages m;on a to a sends m;at s with m to t;on a to b;");
        // Two moves deep: all with s ahead of t a a, whose agents would be the least.
        isText("worlds", allSpelled(x).substring(0, 79),
                "s a a|s a a!m|s a b|s a b!m|s a!m a!m|s a!m b|s b b|t a a|s a!m b!m|s b b!m|t a");
        ProtocolAtlas y = Due.of("agents 2 states a,b;home t,s;messages m;on a to b sends m;at t with m to s;");
        isText("HOMES by number, not by name", allSpelled(y), "t a a|t a b!m|t b!m b!m|s a b|s b b!m");
    }

    private static void badAtLeast() {
        due.at("II BAD: .. N AGENTS at least are in that STATE");
        int[] bad = {15, 11, 5, 1};
        for (int n = 1; n <= 4; n++) {
            ProtocolAtlas x = Due.of("agents 4 states i,w;on i to w;never " + n + " w;");
            due.is("never " + n + " w", x.has(9), bad[n - 1]);
            for (int w = 0; w < 5; w++) {
                due.is("world(" + w + ", 3) of never " + n, x.world(w, 3), w >= n ? 1 : 0);
                due.is("jump", x.jump(w), true);
                due.is("now(-1, 2) of never " + n, x.now(NONE, 2), w >= n ? 1 : 0);
            }
        }
    }

    private static void badAllCounts() {
        due.at("II BAD is a WORLD in which all COUNTS of a never are so");
        String text = "agents 4 states i,w;on i to w;never ";
        due.is("1 i and 1 w", Due.of(text + "1 i and 1 w;").has(9), 14);
        due.is("2 i and 2 w", Due.of(text + "2 i and 2 w;").has(9), 6);
        due.is("3 i and 2 w", Due.of(text + "3 i and 2 w;").has(9), 0);
        due.is("1 w and 2 w", Due.of(text + "1 w and 2 w;").has(9), 11);
        due.is("2 w and 1 w", Due.of(text + "2 w and 1 w;").has(9), 11);
        due.is("1 i and 1 w and 4 i", Due.of(text + "1 i and 1 w and 4 i;").has(9), 0);
        due.is("1 i and 1 i and 3 i", Due.of(text + "1 i and 1 i and 3 i;").has(9), 5);
    }

    private static void badByOneNever() {
        due.at("II BAD: .. of a never (one is enough)");
        String text = "agents 4 states i,w;on i to w;";
        due.is("without", Due.of(text).has(9), 0);
        due.is("two", Due.of(text + "never 4 i;never 4 w;").has(9), 2);
        due.is("four", Due.of(text + "never 4 i and 1 w;never 4 w;never 3 i and 1 w;never 4 i;").has(9), 6);
        due.is("the first WORLD, too", Due.of(text + "never 1 i;").world(0, 3), 1);
        // What a table ahead forbade is gone.
        ProtocolAtlas x = Due.of(text + "never 1 i;never 1 w;");
        Due.feed(x, text + "never 4 w;");
        x.table();
        due.is("of the latest table", x.has(9), 1);
    }

    private static void badNumbersBeyondTheAgents() {
        due.at("II BAD: N beyond the AGENTS is never so");
        due.is("3 of 2", Due.of("agents 2 states i;never 3 i;").has(9), 0);
        due.is("4 of 3", Due.of("agents 3 states i;never 4 i;").has(9), 0);
        due.is("2 of 2", Due.of("agents 2 states i;never 2 i;").has(9), 1);
        due.is("4 of 4", Due.of("agents 4 states i;never 4 i;").has(9), 1);
    }

    private static void badFullOfCounts() {
        due.at("II BAD: 4 never of 3 COUNTS");
        String[] nevers = {"never 1 a and 1 b and 1 c;", "never 2 d and 1 a and 1 b;", "never 1 b and 1 c and 1 d;",
            "never 3 a and 1 d and 1 d;"};
        String text = "agents 4 states a,b,c,d;on a to b;on b to c;on c to d;";
        ProtocolAtlas x = Due.of(text + String.join("", nevers));
        for (int w = 0; w < x.has(5); w++) {
            int[] many = new int[4];
            for (int a = 0; a < 4; a++) {
                many[x.agent(w, a, 0)]++;
            }
            boolean bad = many[0] >= 1 && many[1] >= 1 && many[2] >= 1 || many[3] >= 2 && many[0] >= 1 && many[1] >= 1
                    || many[1] >= 1 && many[2] >= 1 && many[3] >= 1 || many[0] >= 3 && many[3] >= 1;
            due.is("world(" + w + ", 3)", x.world(w, 3), bad ? 1 : 0);
        }
        // With a b c 60, d d a b 12, with b c d 60, a a a d 4; 24 of a b c d are of two.
        due.is("has(9)", x.has(9), 60 + 12 + 60 - 24 + 4);
    }

    private static void stuck() {
        due.at("II STUCK is one from which no MOVE can be");
        due.is("no rules", Due.of("agents 3 states i;").has(10), 1);
        due.is("a rule that is never used", Due.of("agents 3 states i,w;on w to i;").world(0, 4), 1);
        ProtocolAtlas x = Due.of("agents 2 states i,w;on i to w;");
        int[] stuck = {0, 0, 1};
        for (int w = 0; w < 3; w++) {
            due.is("world(" + w + ", 4)", x.world(w, 4), stuck[w]);
        }
        // For want of room: both have two in IN and one in OUT.
        ProtocolAtlas y = Due.of("agents 2 states i;home s;messages m;on i to i sends m;at s with m to s replies m;");
        due.is("has(10)", y.has(10), 1);
        isText("stuck", spelled(y, y.first(1)), "s i<m,m>!m i<m,m>!m");
        // All worlds that it stands for.
        due.is("has(10)", Due.of("agents 3 states i,w,h;on i to w;on i to h;").has(10), 8);
    }

    private static void theWayIsShortest() {
        due.at("II THE WAY: .. as few as can be");
        ProtocolAtlas x = Due.of("agents 2 states a,b,c,d;on a to b;on b to c;on c to d;on a to d;");
        int world = worldOf(x, "- a d");
        due.is("how many", x.way(world, NONE, 0), 1);
        due.is("the RULE", x.way(world, 0, 0), 3);
        due.is("the AGENT", x.way(world, 0, 1), 0);
        due.is("the first WORLD: none", x.way(0, NONE, 0), 0);
        due.is("the first WORLD: none", x.way(0, 0, 0), NONE);
        ProtocolAtlas y = Due.of("agents 2 states i;on i to i;");
        due.is("not by a MOVE that changes nothing", y.way(0, NONE, 0), 0);
    }

    private static void theWayIsLeast() {
        due.at("II THE WAY: .. of like ones the least, compared MOVE by MOVE, by RULE, then AGENT");
        ProtocolAtlas x = Due.of("agents 2 states a,b,c,d;on a to b;on a to c;on c to d;on b to d;");
        isWay(x, "- a d", 0, 0, 3, 0);
        isWay(x, "- b b", 0, 0, 0, 1);
        isWay(x, "- b c", 0, 0, 1, 1);
        isWay(x, "- c d", 0, 0, 1, 1, 3, 0);
        isWay(x, "- d d", 0, 0, 0, 1, 3, 0, 3, 1);
        // The RULE counts ahead of the AGENT: rule 0 by agent 1, not rule 1 by agent 0.
        ProtocolAtlas y = Due.of("agents 2 states a,b,c;on b to c;on a to b;");
        isWay(y, "- b c", 1, 0, 0, 0, 1, 1);
        isWay(y, "- c c", 1, 0, 0, 0, 1, 1, 0, 1);
    }

    private static void theWayOfAgentsAsTheyAre() {
        due.at("II THE WAY: .. AGENTS as they are put then");
        ProtocolAtlas x = Due.of("agents 3 states a,b,c;on a to c;on c to b;");
        isWay(x, "- a a b", 0, 0, 1, 0);
        isWay(x, "- a b c", 0, 0, 0, 1, 1, 0);
        isWay(x, "- b b c", 0, 0, 0, 1, 0, 2, 1, 0, 1, 1);
        // Going the way leads there.
        for (int w = 0; w < x.has(5); w++) {
            ProtocolAtlas y = Due.of("agents 3 states a,b,c;on a to c;on c to b;");
            for (int k = 0; k < x.way(w, NONE, 0); k++) {
                y.move(x.way(w, k, 0), x.way(w, k, 1));
            }
            due.is("the way to " + w, y.now(NONE, 1), w);
        }
    }

    private static int worldOf(ProtocolAtlas x, String text) {
        Due.feed(x, text);
        return x.which();
    }

    private static void isWay(ProtocolAtlas x, String text, int... moves) {
        int world = worldOf(x, text);
        due.is("there is " + text, world != NONE, true);
        due.is("how many to " + text, x.way(world, NONE, 0), moves.length / 2);
        for (int k = 0; k < moves.length; k++) {
            due.is("to " + text + " move " + k / 2 + ", " + k % 2, x.way(world, k / 2, k % 2), moves[k]);
        }
    }

    private static void parts() {
        due.at("II PARTS: .. (as large as can be; numbers by the first FOLDED WORLD of each, rising)");
        due.is("one world", Due.of("agents 2 states i;").has(11), 1);
        due.is("one with a MOVE to itself", Due.of("agents 2 states i;on i to i;").has(11), 1);
        due.is("a ring", Due.of("agents 2 states a,b,c;on a to b;on b to c;on c to a;").has(11), 1);
        due.is("a row", Due.of("agents 2 states a,b,c;on a to b;on b to c;").has(11), 6);
        // Rings of two lengths that have a world in common are one.
        due.is("two rings", Due.of("agents 2 states a,b,c;on a to b;on b to a;on b to c;on c to b;").has(11), 1);
        ProtocolAtlas x = Due.of("agents 2 states a,b,c;on a to b;on b to c;on c to b;");
        // aa; ab ac; bb bc cc.
        isText("worlds", allSpelled(x), "- a a|- a b|- a c|- b b|- b c|- c c");
        int[] part = {0, 1, 1, 2, 2, 2};
        for (int w = 0; w < 6; w++) {
            due.is("world(" + w + ", 6)", x.world(w, 6), part[w]);
        }
        int[][] parts = {{1, 0}, {2, 1}, {3, 3}};
        for (int p = 0; p < 3; p++) {
            due.is("part(" + p + ", 0)", x.part(p, 0), parts[p][0]);
            due.is("part(" + p + ", 1)", x.part(p, 1), parts[p][1]);
        }
    }

    private static void partEnds() {
        due.at("II an END, if no MOVE leads out of it");
        ProtocolAtlas x = Due.of("agents 2 states a,b,c;on a to b;on b to c;on c to b;");
        due.is("part(0, 2)", x.part(0, 2), 0);
        due.is("part(1, 2)", x.part(1, 2), 0);
        due.is("part(2, 2)", x.part(2, 2), 1);
        due.is("without a MOVE", Due.of("agents 2 states i;").part(0, 2), 1);
        due.is("a MOVE to itself", Due.of("agents 2 states i;on i to i;").part(0, 2), 1);
        ProtocolAtlas y = Due.of("agents 2 states a,b,c;on a to b;on a to c;");
        // aa; ab ac; bb bc cc: three ends.
        int ends = 0;
        for (int p = 0; p < y.has(11); p++) {
            ends += y.part(p, 2);
        }
        due.is("ends", ends, 3);
    }

    private static void starves() {
        due.at("II an AGENT in STATE A STARVES in a WORLD, if by no MOVES one comes to a WORLD in which it is in B");
        ProtocolAtlas x = Due.of("agents 2 states a,b,c;on a to b;on a to c;wants a b;");
        due.is("it can", x.starving(0), 0);
        ProtocolAtlas y = Due.of("agents 2 states a,b,c;on a to b;on b to c;wants b a;");
        // ab: 1, bb: 2, bc: 1; ab and bc stand for two each.
        due.is("it can't", y.starving(0), 6);
        due.is("not in A", y.agent(0, 0, 4), 0);
        due.is("first(2)", y.first(2), 1);
        due.is("agent(1, 0, 4)", y.agent(1, 0, 4), 0);
        due.is("agent(1, 1, 4)", y.agent(1, 1, 4), 1);
        // That another one comes to B is no help; that another one helps is.
        ProtocolAtlas z = Due.of("agents 2 states a,b,c;on a to b;on a to c;on c to c;wants c b;");
        due.is("another one", z.first(2), worldOf(z, "- a c"));
        ProtocolAtlas u = Due.of("agents 2 states a,b;home s;messages m;on a to a sends m;at s with m to s tells m;"
                + "on a with m to b;wants a b;");
        due.is("by another one's help", u.agent(0, 0, 4), 0);
        due.is("none is left to help", u.agent(worldOf(u, "s a b"), 0, 4), 1);
    }

    private static void starvesNoneAtAllToo() {
        due.at("II .. by no MOVES (none at all, too)");
        due.is("in A that is B", Due.of("agents 2 states a,b;on a to b;wants a a;").starving(0), 0);
        due.is("in A that is B, stuck", Due.of("agents 4 states a;wants a a;").starving(0), 0);
        due.is("stuck", Due.of("agents 4 states a,b;wants a b;").starving(0), 4);
        due.is("stuck, not in A", Due.of("agents 4 states a,b;wants b a;").starving(0), 0);
    }

    private static void starveAlike() {
        due.at("II an AGENT STARVES: alike ones alike, wherever they are put");
        ProtocolAtlas x = Due.of("agents 4 states i,w,h;on i to w;on i to h;wants w h;");
        for (int w = 0; w < x.has(5); w++) {
            for (int a = 0; a < 4; a++) {
                due.is("agent(" + w + ", " + a + ", 4)", x.agent(w, a, 4), x.agent(w, a, 0) == 1 ? 1 : 0);
            }
        }
        // Of 81 worlds each agent is in w in a third.
        due.is("starving(0)", x.starving(0), 4 * 27);
        ProtocolAtlas y = Due.of("agents 4 states i,w,h;on i to w;on i to h;on w to w;wants w h;");
        for (int w = 0; w < y.has(5); w++) {
            for (int a = 0; a < 4; a++) {
                due.is("agent(" + w + ", " + a + ", 5)", y.agent(w, a, 5), y.agent(w, a, 0) == 1 ? 1 : 0);
            }
        }
        due.is("starving(1)", y.starving(1), 4 * 27);
        // The first one that starves is far behind the first world.
        ProtocolAtlas z = Due.of("agents 2 states a,b,c,d,e;on a to b;on b to c;on c to d;on d to e;wants e a;");
        due.is("first(2)", z.first(2), worldOf(z, "- a e"));
        due.is("its DEPTH", z.world(z.first(2), 0), 4);
    }

    private static void leftOutNeedsAMove() {
        due.at("II LEFT OUT: a RING: .. and again by one MOVE at least");
        ProtocolAtlas x = Due.of("agents 2 states a,b;wants a b;");
        due.is("without a MOVE it STARVES", x.starving(0), 2);
        due.is("without a MOVE there is no RING", x.starving(1), 0);
        due.is("first(3)", x.first(3), NONE);
        ProtocolAtlas y = Due.of("agents 2 states a,b,c;on a to c;wants c b;");
        due.is("to where it is stuck", y.starving(1), 0);
        due.is("a MOVE to itself", Due.of("agents 2 states a,b;on a to a;wants a b;").starving(1), 2);
    }

    private static void leftOutByOwnRules() {
        due.at("II LEFT OUT: .. each RULE on by which it can make a MOVE in one of them is one by which it makes one "
                + "from one of them to one of them");
        due.is("it can go to B", Due.of("agents 2 states a,b;on a to a;on a to b;wants a b;").starving(1), 0);
        // It can go to c, which is out of the RING of a; but at c there is one by the other's MOVES, as long as it can.
        ProtocolAtlas x = Due.of("agents 2 states a,b,c;on a to a;on a to c;wants a b;");
        due.is("a a", x.agent(0, 0, 5), 1);
        due.is("a c", x.agent(worldOf(x, "- a c"), 0, 5), 0);
        due.is("all together", x.starving(1), 2);
        due.is("STARVING all together", x.starving(0), 4);
        // To and fro: both rules are made from one of them to one of them.
        ProtocolAtlas y = Due.of("agents 2 states a,b,c;on a to c;on c to a;wants a b;");
        due.is("to and fro", y.starving(1), 4);
        ProtocolAtlas z = Due.of("agents 2 states a,b,c;on a to c;on c to a;on c to b;wants a b;");
        due.is("to and fro, out to B from c", z.starving(1), 0);
    }

    private static void leftOutByRulesOnAlone() {
        due.at("II LEFT OUT: .. each RULE on (what the home could do does not count)");
        ProtocolAtlas x = Due.of("agents 2 states w,v,x;home s;messages m;on w to v sends m;at s with m to s replies m;"
                + "on v with m to x;on x to w;wants v x;");
        due.is("its message waits", x.agent(worldOf(x, "s w v!m"), 1, 5), 1);
        due.is("its answer is there", x.agent(worldOf(x, "s w v<m>"), 1, 5), 0);
        due.is("it does not STARVE", x.starving(0), 0);
    }

    private static void leftOutAsManyAsThereAre() {
        due.at("II LEFT OUT: a RING: WORLDS .. (as many as there are so)");
        // While its message waits, the other one's to and fro would do; but to these WORLDS belong those with its answer.
        String joined = "agents 2 states v,x;home s;messages m;on v to v sends m;at s with m to s replies m;"
                + "on v with m to v;";
        ProtocolAtlas x = Due.of(joined + "on v with m to x;on x to x;wants v x;");
        due.is("a few of them are no RING", x.starving(1), 0);
        due.is("first(3)", x.first(3), NONE);
        ProtocolAtlas y = Due.of(joined + "on x to x;wants v x;");
        due.is("as many as there are", y.starving(1), 2 * y.has(6));
        // Without a way back from its answer those in which its message waits are all that there are.
        ProtocolAtlas z = Due.of("agents 2 states i,v,x;home s;messages m;on i to v sends m;at s with m to s replies m;"
                + "on v with m to x;on i to i;wants v x;");
        due.is("no others belong to them", z.agent(worldOf(z, "s i v!m"), 1, 5), 1);
        due.is("the answer is there", z.agent(worldOf(z, "s i v<m>"), 1, 5), 0);
    }

    private static void leftOutNeverInB() {
        due.at("II LEFT OUT: .. it never being in B, .. it not in B in any of them");
        ProtocolAtlas x = Due.of("agents 2 states a,b,c;on a to b;on b to c;on c to c;wants a b;");
        due.is("the RING of c is behind B", x.starving(1), 0);
        ProtocolAtlas y = Due.of("agents 2 states a,b,c;on a to b;on b to b;wants a b;");
        due.is("the RING is in B", y.starving(1), 0);
        ProtocolAtlas z = Due.of("agents 2 states a,b,c;on a to c;on c to c;on c to a;wants a b;");
        due.is("B is nowhere", z.starving(1), 4);
    }

    private static void leftOutBehindB() {
        due.at("II LEFT OUT: .. it never being in B (from then on; it may have been there)");
        ProtocolAtlas x = Due.of("agents 2 states s,t,u,b,a;on s to t;on t to u;on u to b;on b to a;on a to a;wants a b;");
        for (int w = 0; w < x.has(5); w++) {
            for (int a = 0; a < 2; a++) {
                due.is("agent(" + w + ", " + a + ", 5)", x.agent(w, a, 5), x.agent(w, a, 0) == 4 ? 1 : 0);
            }
        }
        due.is("first(3)", x.first(3), worldOf(x, "- s a"));
        due.is("all together", x.starving(1), 10);
        ProtocolAtlas y = Due.of("agents 2 states b,a;on b to a;on a to a;wants a b;");
        due.is("B is the first STATE", y.starving(1), 4);
    }

    private static void leftOutNoneAtAllToo() {
        due.at("II LEFT OUT: .. by MOVES (none at all, too)");
        due.is("in the RING", Due.of("agents 2 states a,b;on a to a;wants a b;").agent(0, 1, 5), 1);
        ProtocolAtlas x = Due.of("agents 2 states a,b,c;on a to c;on c to c;wants a b;");
        due.is("it comes to the RING", x.agent(0, 0, 5), 1);
        due.is("not in A", x.agent(worldOf(x, "- a c"), 1, 5), 0);
        due.is("in A that is B", Due.of("agents 2 states a;on a to a;wants a a;").starving(1), 0);
        due.is("out of A that is B", Due.of("agents 2 states a,c;on a to c;on c to c;wants a a;").starving(1), 0);
    }

    private static void withoutWantsNobody() {
        due.at("II Without wants nobody does");
        ProtocolAtlas x = Due.of("agents 2 states a,b,c;on a to a;on a to c;wants a b;");
        due.is("with", x.starving(0) > 0 && x.starving(1) > 0, true);
        Due.feed(x, "agents 2 states a,b,c;on a to a;on a to c;");
        x.table();
        due.is("starving(0)", x.starving(0), 0);
        due.is("starving(1)", x.starving(1), 0);
        due.is("first(2)", x.first(2), NONE);
        due.is("first(3)", x.first(3), NONE);
        for (int w = 0; w < x.has(5); w++) {
            for (int a = 0; a < 2; a++) {
                due.is("agent(" + w + ", " + a + ", 4)", x.agent(w, a, 4), 0);
                due.is("agent(" + w + ", " + a + ", 5)", x.agent(w, a, 5), 0);
            }
        }
        due.is("without(0, 4)", x.without(0, 4), 0);
        due.is("without(1, 4)", x.without(1, 4), 0);
    }

    private static void walkFirst() {
        due.at("III THE WALK is a WORLD, the first one at first");
        ProtocolAtlas x = Due.of(KEPT);
        isText("the walk", walk(x), "0 0,-1,-1,-1 0,-1,-1,-1");
        due.is("now(-1, 1)", x.now(NONE, 1), 0);
        due.is("no ACTS", x.has(12), 0);
    }

    private static void lastTwentyActs() {
        due.at("III The last 20 can be undone");
        for (int acts : new int[] {0, 1, 19, 20, 21, 41}) {
            ProtocolAtlas x = Due.of("agents 3 states i,w;on i to w;on w to i;");
            String[] walks = new String[acts + 1];
            walks[0] = walk(x);
            for (int k = 0; k < acts; k++) {
                act(x, k);
                walks[k + 1] = walk(x);
                due.is("has(12) behind " + (k + 1), x.has(12), Math.min(k + 1, 20));
            }
            int last = Math.min(acts, 20);
            for (int k = 1; k <= last; k++) {
                due.is("undo() " + k + " of " + acts, x.undo(), true);
                isText("as it was", walk(x), walks[acts - k]);
                due.is("has(12)", x.has(12), last - k);
            }
            due.is("undo() beyond", x.undo(), false);
            isText("it stays", walk(x), walks[acts - last]);
        }
    }

    /** A MOVE, a jump, MOVES by the seed. */
    private static void act(ProtocolAtlas x, int k) {
        if (k % 3 == 0) {
            int a = k / 3 % 3;
            x.move(x.can(0, a) == 1 ? 0 : 1, a);
        } else if (k % 3 == 1) {
            x.jump(k % 4);
        } else {
            x.chance(1 + k % 5);
        }
    }

    private static long next(long seed) {
        return (1103515245L * seed + 12345L) % (1L << 31);
    }

    private static void drawsWrapAround() {
        due.at("III x becomes (1103515245 x + 12345) mod 2 to the 31; floor(x / 64) mod m");
        // Four agents that turn about: always four moves, each agent has one.
        for (int seed : new int[] {0, 1, 2, 3, 64, 12345, 1 << 30, Integer.MAX_VALUE - 1, Integer.MAX_VALUE}) {
            ProtocolAtlas x = Due.of("agents 4 states i,w;on i to w;on w to i;");
            x.seed(seed);
            long drawn = seed;
            int[] state = new int[4];
            for (int k = 0; k < 40; k++) {
                drawn = next(drawn);
                int left = (int) (drawn / 64 % 4);
                int agent = NONE;
                for (int r = 0; r < 2 && agent == NONE; r++) {
                    for (int a = 0; a < 4 && agent == NONE; a++) {
                        agent = state[a] == r && left-- == 0 ? a : NONE;
                    }
                }
                state[agent] = 1 - state[agent];
                x.chance(1);
                due.is("seed " + seed + ", draw " + k, x.now(agent, 0), state[agent]);
            }
            for (int a = 0; a < 4; a++) {
                due.is("seed " + seed + ", agent " + a, x.now(a, 0), state[a]);
            }
        }
        // The first draw of the seed 0 is 12345 / 64 = 192, of the greatest one 1043980748 / 64 = 16312199.
        due.is("the first of 0", next(0), 12345);
        due.is("the first of the greatest", next(Integer.MAX_VALUE), 1043980748);
    }

    private static void drawsByRuleThenAgent() {
        due.at("III of all MOVES that can be, by RULE, then AGENT, the one of the number of a DRAW");
        String text = "agents 3 states i,w,h;on w to h;on i to h;on i to w;";
        // With agent 1 in w: rule 0 agent 1, rule 1 agents 0 and 2, rule 2 agents 0 and 2.
        int[] agents = {1, 0, 2, 0, 2};
        int[] states = {2, 2, 2, 1, 1};
        boolean[] met = new boolean[5];
        for (int seed = 0; seed < 40; seed++) {
            ProtocolAtlas x = Due.of(text);
            go(x, 2, 1);
            x.seed(seed);
            x.chance(1);
            int k = (int) (next(seed) / 64 % 5);
            met[k] = true;
            due.is("seed " + seed + ", move " + k, x.now(agents[k], 0), states[k]);
        }
        for (int k = 0; k < 5; k++) {
            due.is("met " + k, met[k], true);
        }
    }

    /** Of a table with 16 rules, each step by the seed is looked for by can(). */
    private static void drawsOfManyRules() {
        due.at("III of all MOVES that can be: 16 RULES");
        StringBuilder text = new StringBuilder("agents 4 states a,b,c,d;");
        for (int r = 0; r < 16; r++) {
            text.append("on ").append("abcd".charAt(r * 7 % 4)).append(" to ").append("abcd".charAt(r * 5 / 3 % 4)).append(";");
        }
        for (int seed = 0; seed < 6; seed++) {
            ProtocolAtlas x = Due.of(text.toString());
            x.seed(seed);
            long drawn = seed;
            for (int k = 0; k < 5; k++) {
                int[] moves = movesOf(x);
                drawn = next(drawn);
                int move = moves[(int) (drawn / 64 % moves.length)];
                int agent = move % 4;
                due.is("chance(1)", x.chance(1), 1);
                due.is("seed " + seed + ", draw " + k, x.now(agent, 0), x.rule(move / 4, 3));
            }
        }
    }

    private static int[] movesOf(ProtocolAtlas x) {
        int[] moves = new int[64];
        int many = 0;
        for (int r = 0; r < x.has(4); r++) {
            for (int a = 0; a < x.has(0); a++) {
                if (x.can(r, a) == 1) {
                    moves[many] = 4 * r + a;
                    many++;
                }
            }
        }
        return java.util.Arrays.copyOf(moves, many);
    }

    private static void drawOfOne() {
        due.at("III a DRAW of how many there are: of one, too");
        ProtocolAtlas x = Due.of("agents 2 states i,w;on i to w;");
        x.seed(77);
        // Of two, then of one; the third finds none.
        due.is("chance(100)", x.chance(100), 2);
        x.jump(0);
        x.chance(1);
        due.is("the third draw", x.now((int) (next(next(next(77))) / 64 % 2), 0), 1);
    }

    private static void noDrawWithoutMoves() {
        due.at("III without any no DRAW, it ends");
        ProtocolAtlas x = Due.of("agents 2 states i;");
        x.seed(5);
        due.is("chance(100)", x.chance(100), 0);
        due.is("chance(1)", x.chance(1), 0);
        Due.feed(x, "agents 2 states i,w;on i to w;");
        x.table();
        x.chance(1);
        due.is("the first draw of 5", x.now((int) (next(5) / 64 % 2), 0), 1);
        due.is("they differ", next(5) / 64 % 2 != next(next(5)) / 64 % 2, true);
        // Behind the last MOVE that can be there is no DRAW either, however many are asked for.
        for (int n : new int[] {2, 3, 4, 100}) {
            for (int seed = 0; seed < 12; seed++) {
                ProtocolAtlas y = Due.of("agents 2 states i,w;on i to w;");
                y.seed(seed);
                due.is("only two can be", y.chance(n), 2);
                due.is("none can be", y.chance(n), 0);
                Due.feed(y, "agents 4 states i,w;on i to w;");
                y.table();
                y.chance(1);
                due.is("the third draw of " + seed, y.now((int) (next(next(next(seed))) / 64 % 4), 0), 1);
            }
        }
    }

    private static void withoutARule() {
        due.at("III WITHOUT a RULE: all is as if it were not told (the others keep their numbers)");
        String head = "agents 3 states a,b,c;";
        String tail = "never 2 b;never 3 c;wants a c;";
        String[] rules = {"on a to b;", "on b to c;", "on b to a;", "on a to c;"};
        ProtocolAtlas x = Due.of(head + String.join("", rules) + tail);
        int[] figures = {5, 6, 9, 10};
        for (int r = 0; r < rules.length; r++) {
            StringBuilder less = new StringBuilder(head);
            for (int k = 0; k < rules.length; k++) {
                less.append(k == r ? "" : rules[k]);
            }
            ProtocolAtlas y = Due.of(less + tail);
            for (int what = 0; what < 4; what++) {
                due.is("without(" + r + ", " + what + ")", x.without(r, what), y.has(figures[what]));
            }
            due.is("without(" + r + ", 4)", x.without(r, 4), y.starving(0));
        }
        // Without the only one the first world is left.
        ProtocolAtlas z = Due.of("agents 2 states a,b;on a to b;never 2 a;wants a b;");
        int[] alone = {1, 1, 1, 1, 2};
        for (int what = 0; what < 5; what++) {
            due.is("without(0, " + what + ") of one", z.without(0, what), alone[what]);
        }
        // mend() answers by the numbers that they have: without the last one b is not come to.
        due.is("mend()", Due.of("agents 2 states a,b;on a to a;on b to a;on a to b;never 1 b;").mend(), 2);
    }

    private static void withoutStuckOnes() {
        due.at("III WITHOUT a RULE: STUCK ones are those from which no other RULE leads");
        ProtocolAtlas x = Due.of("agents 2 states a,b,c;on a to b;on a to c;on c to c;on b to a;");
        int[] stuck = {0, 0, 1, 1};
        for (int r = 0; r < 4; r++) {
            due.is("without(" + r + ", 3)", x.without(r, 3), stuck[r]);
        }
        ProtocolAtlas y = Due.of("agents 3 states a,b,c;on a to b;on a to c;on c to c;on b to b;");
        // Without b to b: bbb. Without c to c: ccc.
        due.is("without(3, 3)", y.without(3, 3), 1);
        due.is("without(2, 3)", y.without(2, 3), 1);
        due.is("without(3, 1)", y.without(3, 1), 27);
    }

    private static void couldJustSoMany() {
        due.at("III COULD are the FOLDED WORLDS .. to which just so many MOVES can lead from THE WALK, in which all is so");
        ProtocolAtlas x = Due.of("agents 2 states a,b;on a to b;on b to a;");
        int[][] could = {{1, 0, 0}, {0, 1, 0}, {1, 0, 1}, {0, 1, 0}, {1, 0, 1}, {0, 1, 0}, {1, 0, 1}};
        for (int n = 0; n <= 6; n++) {
            for (int w = 0; w < 3; w++) {
                Due.feed(x, 0, 2 - w);
                due.is("see(" + n + ")", x.see(n), 1);
                due.is("could behind " + n + " with " + (2 - w) + " in a", x.could(NONE), could[n][w]);
                due.is("could(0)", x.could(0), could[n][w] == 1 ? w : NONE);
            }
        }
        ProtocolAtlas y = Due.of("agents 2 states a,b,c;on a to b;on b to c;");
        Due.feed(y, 2, 2);
        y.see(4);
        due.is("four moves", y.could(0), 5);
        Due.feed(y, 2, 2);
        y.see(5);
        due.is("no five moves can be", y.could(NONE), 0);
    }

    private static void telling() {
        due.at("III TELLING is the STATE by whose number of AGENTS the most COULD left are fewest; of like ones the first");
        // Behind two moves: 2 in b, c or d, or one each in two of them.
        ProtocolAtlas x = Due.of("agents 2 states a,b,c,d;on a to b;on a to c;on a to d;");
        Due.feed(x, 0, 0);
        x.see(2);
        due.is("could", x.could(NONE), 6);
        // By b: bb 2; bc bd 1; cc cd dd 0: three at the most. By a: six.
        due.is("of like ones the first", x.tells(0), 1);
        due.is("three are left at the most", x.tells(1), 3);
        Due.feed(x, 0, 0, 1, 1);
        x.see(2);
        // bc, bd: by c (or d) one each.
        due.is("the later one", x.tells(0), 2);
        due.is("one is left at the most", x.tells(1), 1);
        Due.feed(x, 0, 0, 1, 1, 2, 1);
        x.see(2);
        due.is("if one is left, the first STATE", x.tells(0), 0);
        due.is("if one is left", x.tells(1), 1);
        Due.feed(x, 0, 0, 1, 3);
        x.see(2);
        due.is("none is left", x.tells(0), NONE);
        due.is("none is left", x.tells(1), NONE);
    }

    private static void textOfAWorld() {
        due.at("III THE TEXT of a WORLD");
        ProtocolAtlas x = Due.of(KEPT);
        int[][] moves = {{}, {0, 0}, {0, 0, 2, 0}, {0, 0, 2, 0, 1, 0}, {0, 0, 2, 0, 1, 0, 3, 0},
            {0, 0, 2, 0, 1, 0, 3, 0, 1, 0}, {0, 0, 2, 0, 0, 0, 2, 0, 1, 1, 3, 1, 0, 1}};
        String[] texts = {"s i i", "s i i!m", "s i i<m>", "s i i<m>!n", "s i i<m,n>", "s i i<m,n>!n", "s i<m,m> i<n>!m"};
        for (int k = 0; k < moves.length; k++) {
            x.jump(0);
            go(x, moves[k]);
            isText("the text", spelled(x, x.now(NONE, 1)), texts[k]);
            Due.feed(x, texts[k]);
            due.is("which() of " + texts[k], x.which(), x.now(NONE, 1));
        }
        isText("no HOME", spelled(Due.of("agents 4 states i;"), 0), "- i i i i");
    }

    private static void textsWithLongestNames() {
        due.at("III THE TEXT of a WORLD, all NAMES of six letters");
        ProtocolAtlas x = Due.of("agents 2 states aaaaaa,zzzzzz;home azazaz;messages mmmmmm,nnnnnn;"
                + "on aaaaaa to aaaaaa sends mmmmmm;on aaaaaa to zzzzzz sends nnnnnn;"
                + "at azazaz with mmmmmm to azazaz tells nnnnnn;at azazaz with nnnnnn to azazaz replies mmmmmm;");
        go(x, 0, 0, 2, 0, 0, 0, 2, 0, 0, 1, 2, 1, 1, 0, 3, 0, 1, 1);
        String want = "azazaz zzzzzz<nnnnnn,mmmmmm> zzzzzz<nnnnnn,nnnnnn>!nnnnnn";
        isText("the text", spelled(x, x.now(NONE, 1)), want);
        Due.feed(x, want);
        due.is("which()", x.which(), x.now(NONE, 1));
    }

    private static void imageOfTheWalk() {
        due.at("III AN IMAGE: .. (255: none), .. (255: nothing); last a byte: all ahead from 193 on");
        for (int agents = 2; agents <= 4; agents++) {
            ProtocolAtlas x = Due.of("agents " + agents + " states i;");
            due.is("image()", x.image(), 2 + 4 * agents);
            int check = 193;
            for (int k = 0; k <= 4 * agents; k++) {
                int want = k % 4 == 1 ? 0 : 255;
                due.is("octet(" + k + ")", x.octet(k), want);
                check = (5 * check + want) % 251;
            }
            due.is("the last byte", x.octet(1 + 4 * agents), check);
            due.is("none behind it", x.octet(2 + 4 * agents), NONE);
        }
        ProtocolAtlas y = Due.of(KEPT);
        go(y, 1, 1, 3, 1, 0, 1, 2, 1, 1, 1, 0, 0);
        // (5 * 193 + 0) mod 251 = 212, then 56, 33, 169, 92, 209, 42, 210, 47.
        int[] bytes = {0, 0, 255, 255, 0, 0, 1, 0, 1, 47};
        due.is("image()", y.image(), 10);
        for (int k = 0; k < bytes.length; k++) {
            due.is("octet(" + k + ")", y.octet(k), bytes[k]);
        }
        ProtocolAtlas z = Due.of("agents 2 states a,b,c,d,e,f;home o,p,q,r,s,t;on a to f;");
        go(z, 0, 1);
        z.image();
        due.is("the HOME", z.octet(0), 0);
        due.is("STATE of agent 0", z.octet(1), 0);
        due.is("STATE of agent 1", z.octet(5), 5);
    }
}
