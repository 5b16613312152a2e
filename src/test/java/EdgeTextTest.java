/** Terms I of the document, sentence by sentence: the edges of what a table's text may be, and its faults. */
public final class EdgeTextTest {
    private static final Due due = new Due();
    private static final int NONE = ProtocolAtlas.NONE;
    private static final String HEAD = "agents 2 states i,w,h;";
    private static final String FULL = HEAD + "home s,t;messages m,n;";
    private static final String[] OWN_WORDS = ("agents states home messages order kept loose never and wants on with to "
            + "sends at replies tells none some").split(" ");

    /** Just 600 folded worlds. */
    private static final String JUST = "agents 3 states a,b,c;home s;messages m;at s with m to s replies m tells m;"
            + "on c to b;on c with m to c sends m;on a to c;on c to a;on c to c;on b to c sends m;";
    /** Just 601 of them. */
    private static final String ONE_MORE = "agents 3 states a,b,c,d;home s,t;messages m,n;at s with m to s tells m;"
            + "on b with m to c sends n;on b with m to a;on a to c sends n;on a to a;on a to b sends m;"
            + "at s with m to t;";

    public static void main(String[] args) {
        statementsAtMost();
        statementsEnd();
        agentsTwoToFour();
        statesOneToSix();
        agentsFirstAndNoOther();
        homesOneToSixAndOne();
        messagesOneToSixAndOne();
        orderTheLastCounts();
        neversFour();
        countsThree();
        countNumbers();
        countIsOfAState();
        wantsOneOfStates();
        rulesSixteen();
        rulesNumbersAsTold();
        onRows();
        atRows();
        oneOfNoneAndSome();
        toldAhead();
        namesOneToSixLetters();
        namesAreLetters();
        namesUnlike();
        noOwnWord();
        numbersOneDigit();
        blanks();
        blanksBetween();
        endsTooSoon();
        wordsWhole();
        oneTooManyWhateverStands();
        oneTooManyOnlyIfAnythingStands();
        oneTooManyAtFirstByte();
        firstAlongTheText();
        tooManyWorlds();
        tooManyWorldsOnlyIfNothingElse();
        fullTapes();
        nothingIsLeftOfAnother();
        due.finish();
    }

    private static void bad(String text, int fault, int place) {
        ProtocolAtlas x = new ProtocolAtlas();
        Due.feed(x, text);
        String shown = "\"" + text.replace('\n', '/') + "\" ";
        due.is(shown + "table()", x.table(), NONE);
        due.is(shown + "fault(0)", x.fault(0), fault);
        due.is(shown + "fault(1)", x.fault(1), place);
        due.is(shown + "status(1)", x.status(1), 1);
        due.is(shown + "has(0)", x.has(0), 0);
    }

    private static ProtocolAtlas good(String text, int statements) {
        ProtocolAtlas x = new ProtocolAtlas();
        Due.feed(x, text);
        String shown = "\"" + text.replace('\n', '/') + "\" ";
        due.is(shown + "table()", x.table(), statements);
        due.is(shown + "fault(0)", x.fault(0), 0);
        due.is(shown + "fault(1)", x.fault(1), NONE);
        due.is(shown + "status(1)", x.status(1), 0);
        return x;
    }

    private static void statementsAtMost() {
        due.at("I { STATEMENT ; } (60 at most)");
        String some = "agents 2 states i;" + "order kept;".repeat(58);
        good(some, 59);
        good(some + "order loose;", 60);
        bad(some + "order loose;order kept;", 5, some.length() + 12);
        bad(some + "order loose;order kept;order kept;", 5, some.length() + 12);
    }

    private static void statementsEnd() {
        due.at("I each STATEMENT has its ;");
        bad("agents 2 states i", 1, 17);
        bad(HEAD + "order kept", 1, HEAD.length() + 10);
        bad(HEAD + "order kept order kept;", 1, HEAD.length() + 11);
        bad(HEAD + ";", 1, HEAD.length());
        bad(HEAD + "order kept;;", 1, HEAD.length() + 11);
        bad("", 1, 0);
        bad(";", 1, 0);
        String last = "agents 2 states i;" + "order kept;".repeat(58);
        bad(last + "order kept", 1, last.length() + 10);
    }

    private static void agentsTwoToFour() {
        due.at("I 2 .. 4 AGENTS");
        for (int n = 0; n <= 9; n++) {
            String text = "agents " + n + " states i;";
            if (n >= 2 && n <= 4) {
                due.is("has(0)", good(text, 1).has(0), n);
            } else {
                bad(text, 2, 7);
            }
        }
        bad("agents states i;", 1, 7);
    }

    private static void statesOneToSix() {
        due.at("I 1 .. 6 STATES");
        bad("agents 2 states ;", 1, 16);
        bad("agents 2 states;", 1, 15);
        String names = "a";
        for (int n = 1; n <= 6; n++) {
            due.is("has(1)", good("agents 2 states " + names + ";", 1).has(1), n);
            names += "," + (char) ('a' + n);
        }
        bad("agents 2 states " + names + ";", 5, 16 + 12);
        bad("agents 2 states a,;", 1, 18);
        bad("agents 2 states ,a;", 1, 16);
        bad("agents 2 states a b;", 1, 18);
    }

    private static void agentsFirstAndNoOther() {
        due.at("I the first STATEMENT, and no other");
        for (String text : new String[] {"home s;", "messages m;", "order kept;", "never 1 i;", "wants i i;", "on i to i;",
            "at s with m to s;", "states i;"}) {
            bad(text + HEAD, 1, 0);
        }
        bad(HEAD + HEAD, 1, HEAD.length());
        bad(FULL + "on i to w;agents 2 states x;", 1, FULL.length() + 10);
    }

    private static void homesOneToSixAndOne() {
        due.at("I 1 .. 6 HOMES; one");
        namesOfOneRow("home", 2);
    }

    private static void messagesOneToSixAndOne() {
        due.at("I 1 .. 6 MESSAGES; one");
        namesOfOneRow("messages", 3);
    }

    private static void namesOfOneRow(String word, int what) {
        int n = HEAD.length();
        due.is("without " + word, good(HEAD, 1).has(what), 0);
        bad(HEAD + word + ";", 1, n + word.length());
        bad(HEAD + word + " ;", 1, n + word.length() + 1);
        bad(HEAD + word, 1, n + word.length());
        String names = "a";
        for (int k = 1; k <= 6; k++) {
            due.is("has(" + what + ")", good(HEAD + word + " " + names + ";", 2).has(what), k);
            names += "," + (char) ('a' + k);
        }
        bad(HEAD + word + " " + names + ";", 5, n + word.length() + 1 + 12);
        bad(HEAD + word + " a;" + word + " b;", 5, n + word.length() + 3);
        bad(HEAD + word + " a;order kept;" + word + " b;", 5, n + word.length() + 14);
    }

    private static void orderTheLastCounts() {
        due.at("I order kept, order loose (the last one counts, kept without)");
        String rows = "home s;messages m,n;on i to i sends m;on i to i sends n;at s with m to s replies m;"
                + "at s with n to s replies n;on i with m to w;";
        String[] orders = {"", "order kept;", "order loose;", "order loose;order kept;", "order kept;order loose;",
            "order loose;order loose;order kept;", "order kept;order kept;order loose;"};
        int[] loose = {0, 0, 1, 0, 1, 0, 1};
        for (int k = 0; k < orders.length; k++) {
            due.is("ahead: " + orders[k], canTakeSecond("agents 2 states i,w;" + orders[k] + rows), loose[k]);
            due.is("behind: " + orders[k], canTakeSecond("agents 2 states i,w;" + rows + orders[k]), loose[k]);
        }
        due.is("a loose one ahead is gone", canTakeSecondBehindLoose("agents 2 states i,w;" + rows), 0);
        bad(HEAD + "order;", 1, HEAD.length() + 5);
        bad(HEAD + "order i;", 1, HEAD.length() + 6);
        bad(HEAD + "order loose kept;", 1, HEAD.length() + 12);
    }

    /** Agent 0 has n, then m in IN: whether m can be taken. */
    private static int canTakeSecond(String text) {
        return takeSecond(Due.of(text));
    }

    private static int canTakeSecondBehindLoose(String text) {
        ProtocolAtlas x = Due.of("agents 2 states i;order loose;");
        Due.feed(x, text);
        x.table();
        return takeSecond(x);
    }

    private static int takeSecond(ProtocolAtlas x) {
        x.move(1, 0);
        x.move(3, 0);
        x.move(0, 0);
        x.move(2, 0);
        due.is("two in IN", x.now(0, 2) != NONE, true);
        return x.can(4, 0);
    }

    private static void neversFour() {
        due.at("I never (4)");
        String nevers = "never 1 w;never 2 w;never 2 h;";
        good(HEAD + nevers, 4);
        String four = HEAD + nevers + "never 1 h;";
        ProtocolAtlas x = good(four + "on i to h;", 6);
        due.is("the fourth one counts", x.world(1, 3), 1);
        bad(four + "never 1 i;", 5, four.length());
        bad(four + "order kept;never 1 i;", 5, four.length() + 11);
        bad(four + "never", 5, four.length());
    }

    private static void countsThree() {
        due.at("I 3 COUNTS of each");
        good(HEAD + "never 1 i;", 2);
        good(HEAD + "never 1 i and 1 w;", 2);
        ProtocolAtlas x = good("agents 3 states i,w,h;never 1 i and 1 w and 1 h;on i to w;on w to h;", 4);
        due.is("the third one counts", x.has(9), 6);
        String three = HEAD + "never 1 i and 1 w and 1 h";
        bad(three + " and 1 i;", 5, three.length() + 5);
        bad(HEAD + "never;", 1, HEAD.length() + 5);
        bad(HEAD + "never 1 i and;", 1, HEAD.length() + 13);
        bad(HEAD + "never 1 i 1 w;", 1, HEAD.length() + 10);
        bad(HEAD + "never and 1 i;", 1, HEAD.length() + 6);
        // Each never has its own three.
        good(HEAD + "never 1 i and 1 w and 1 h;never 2 i and 2 w and 2 h;never 1 i;never 1 i and 1 i and 1 i;", 5);
    }

    private static void countNumbers() {
        due.at("I COUNT: N NAME: 1 .. 4");
        int n = HEAD.length();
        for (int many = 0; many <= 9; many++) {
            if (many >= 1 && many <= 4) {
                good(HEAD + "never " + many + " i;", 2);
                good(HEAD + "never 1 i and " + many + " w;", 2);
                good(HEAD + "never 1 i and 1 w and " + many + " h;", 2);
            } else {
                bad(HEAD + "never " + many + " i;", 2, n + 6);
                bad(HEAD + "never 1 i and " + many + " w;", 2, n + 14);
                bad(HEAD + "never 1 i and 1 w and " + many + " h;", 2, n + 22);
            }
        }
        bad(HEAD + "never i;", 1, n + 6);
        bad(HEAD + "never 1;", 1, n + 7);
    }

    private static void countIsOfAState() {
        due.at("I COUNT: .. a STATE");
        int n = FULL.length();
        for (String name : new String[] {"s", "m", "x"}) {
            bad(FULL + "never 1 " + name + ";", 3, n + 8);
            bad(FULL + "never 1 i and 1 " + name + ";", 3, n + 16);
        }
        good(FULL + "never 1 h;", 4);
    }

    private static void wantsOneOfStates() {
        due.at("I wants NAME NAME (STATES; one)");
        int n = FULL.length();
        good(FULL + "wants i h;", 4);
        good(FULL + "wants h h;", 4);
        for (String name : new String[] {"s", "m", "x"}) {
            bad(FULL + "wants " + name + " i;", 3, n + 6);
            bad(FULL + "wants i " + name + ";", 3, n + 8);
        }
        bad(FULL + "wants i;", 1, n + 7);
        bad(FULL + "wants;", 1, n + 5);
        bad(FULL + "wants i w h;", 1, n + 10);
        bad(FULL + "wants i w;wants i w;", 5, n + 10);
        // State 0 is a wish as any other one.
        bad(FULL + "wants i i;wants i w;", 5, n + 10);
    }

    private static void rulesSixteen() {
        due.at("I RULES, 16 in all");
        String fifteen = FULL + "on i to w;".repeat(8) + "at s with m to t;".repeat(7);
        due.is("has(4)", good(fifteen, 18).has(4), 15);
        due.is("has(4)", good(fifteen + "on i to w;", 19).has(4), 16);
        due.is("has(4)", good(fifteen + "at s with m to t;", 19).has(4), 16);
        String full = fifteen + "on h to h;";
        due.is("the 16th is one", Due.of(full).rule(15, 1), 2);
        due.is("there is no 17th", Due.of(full).rule(16, 0), NONE);
        bad(full + "on i to w;", 5, full.length());
        bad(full + "at s with m to t;", 5, full.length());
        bad(full + "order kept;on i to w;", 5, full.length() + 11);
        String on = HEAD + "on i to w;".repeat(16);
        due.is("has(4)", good(on, 17).has(4), 16);
        bad(on + "on i to w;", 5, on.length());
        String at = FULL + "at s with m to t;".repeat(16);
        due.is("has(4)", good(at, 19).has(4), 16);
        bad(at + "at s with m to t;", 5, at.length());
        due.is("without any", good(FULL, 3).has(4), 0);
    }

    private static void rulesNumbersAsTold() {
        due.at("I RULES, .. numbers from 0 on as told");
        ProtocolAtlas x = good(FULL + "at s with m to t;on h to i;order kept;never 1 i;at t with n to s;on i to w;", 9);
        int[] at = {1, 0, 1, 0};
        int[] from = {0, 2, 1, 0};
        for (int r = 0; r < 4; r++) {
            due.is("rule(" + r + ", 0)", x.rule(r, 0), at[r]);
            due.is("rule(" + r + ", 1)", x.rule(r, 1), from[r]);
        }
    }

    private static void onRows() {
        due.at("I on NAME [ with NAME ] to NAME [ sends NAME ] (STATE, MESSAGE, STATE, MESSAGE)");
        int n = FULL.length();
        good(FULL + "on i to w;on i with m to w;on i to w sends m;on i with m to w sends n;", 7);
        for (String name : new String[] {"s", "m", "x"}) {
            bad(FULL + "on " + name + " to w;", 3, n + 3);
            bad(FULL + "on i to " + name + ";", 3, n + 8);
            bad(FULL + "on i with m to " + name + ";", 3, n + 15);
        }
        for (String name : new String[] {"s", "i", "x"}) {
            bad(FULL + "on i with " + name + " to w;", 3, n + 10);
            bad(FULL + "on i to w sends " + name + ";", 3, n + 16);
            bad(FULL + "on i with m to w sends " + name + ";", 3, n + 23);
        }
        bad(FULL + "on;", 1, n + 2);
        bad(FULL + "on i;", 1, n + 4);
        bad(FULL + "on i w;", 1, n + 5);
        bad(FULL + "on i to;", 1, n + 7);
        bad(FULL + "on i with to w;", 1, n + 10);
        bad(FULL + "on i with m;", 1, n + 11);
        bad(FULL + "on i to w sends;", 1, n + 15);
        bad(FULL + "on i to w with m;", 1, n + 10);
        bad(FULL + "on i to w sends m sends n;", 1, n + 18);
        bad(FULL + "on i to w tells m;", 1, n + 10);
        bad(FULL + "on i to w none i;", 1, n + 10);
    }

    private static void atRows() {
        due.at("I at NAME with NAME to NAME [..] (HOME, MESSAGE, HOME, MESSAGE, MESSAGE, STATE)");
        int n = FULL.length();
        for (int k = 0; k < 12; k++) {
            String text = "at s with m to t" + (k % 2 == 1 ? " replies n" : "") + (k / 2 % 2 == 1 ? " tells m" : "")
                    + (k / 4 == 1 ? " none w" : k / 4 == 2 ? " some w" : "") + ";";
            ProtocolAtlas x = good(FULL + text, 4);
            due.is(text + " replies", x.rule(0, 4), k % 2 == 1 ? 1 : NONE);
            due.is(text + " tells", x.rule(0, 5), k / 2 % 2 == 1 ? 0 : NONE);
            due.is(text + " of others", x.rule(0, 6), k / 4 > 0 ? 1 : NONE);
            due.is(text + " some", x.rule(0, 7), k / 4 == 2 ? 1 : 0);
        }
        for (String name : new String[] {"i", "m", "x"}) {
            bad(FULL + "at " + name + " with m to t;", 3, n + 3);
            bad(FULL + "at s with m to " + name + ";", 3, n + 15);
        }
        for (String name : new String[] {"i", "s", "x"}) {
            bad(FULL + "at s with " + name + " to t;", 3, n + 10);
            bad(FULL + "at s with m to t replies " + name + ";", 3, n + 25);
            bad(FULL + "at s with m to t tells " + name + ";", 3, n + 23);
        }
        for (String name : new String[] {"m", "s", "x"}) {
            bad(FULL + "at s with m to t none " + name + ";", 3, n + 22);
            bad(FULL + "at s with m to t some " + name + ";", 3, n + 22);
        }
        bad(FULL + "at s to t;", 1, n + 5);
        bad(FULL + "at s with m;", 1, n + 11);
        bad(FULL + "at s with m to;", 1, n + 14);
        bad(FULL + "at s with m to t replies;", 1, n + 24);
        bad(FULL + "at s with m to t tells;", 1, n + 22);
        bad(FULL + "at s with m to t none;", 1, n + 21);
        bad(FULL + "at s with m to t some;", 1, n + 21);
        bad(FULL + "at s with m to t tells m replies m;", 1, n + 25);
        bad(FULL + "at s with m to t none w tells m;", 1, n + 24);
    }

    private static void oneOfNoneAndSome() {
        due.at("I none NAME or some NAME, one of these");
        int n = FULL.length();
        bad(FULL + "at s with m to t none w some w;", 1, n + 24);
        bad(FULL + "at s with m to t some w none w;", 1, n + 24);
        bad(FULL + "at s with m to t none w none w;", 1, n + 24);
        bad(FULL + "at s with m to t some w some w;", 1, n + 24);
        bad(FULL + "at s with m to t none w or some w;", 1, n + 24);
    }

    private static void toldAhead() {
        due.at("I What a NAME stands for is told ahead");
        int n = HEAD.length();
        bad(HEAD + "on i with m to w;messages m;", 3, n + 10);
        bad(HEAD + "on i to w sends m;messages m;", 3, n + 16);
        bad(HEAD + "messages m;at s with m to s;home s;", 3, n + 14);
        bad(HEAD + "home s;at s with m to s;messages m;", 3, n + 17);
        good(HEAD + "on i to w;never 1 i;wants i w;messages m;on i with m to w;home s;at s with m to s;", 8);
    }

    private static void namesOneToSixLetters() {
        due.at("I NAMES: 1 to 6 letters; a 7th letter at itself");
        for (int many = 1; many <= 6; many++) {
            String name = "qrstuv".substring(0, many);
            ProtocolAtlas x = good("agents 2 states " + name + ";on " + name + " to " + name + ";", 2);
            due.is("the last letter", x.letter(0, 0, many - 1), 'q' - 'a' + many);
            due.is("behind it", x.letter(0, 0, many), many < 6 ? 0 : NONE);
        }
        bad("agents 2 states qrstuvw;", 1, 22);
        bad("agents 2 states qrstuvwx;", 1, 22);
        bad(HEAD + "home a,qrstuvw;", 1, HEAD.length() + 7 + 6);
        bad(HEAD + "messages a,qrstuvw;", 1, HEAD.length() + 11 + 6);
        bad(HEAD + "on qrstuvw to i;", 1, HEAD.length() + 3 + 6);
        bad(HEAD + "on i to qrstuvw;", 1, HEAD.length() + 8 + 6);
        bad(HEAD + "never 1 qrstuvw;", 1, HEAD.length() + 8 + 6);
        bad(HEAD + "wants i qrstuvw;", 1, HEAD.length() + 8 + 6);
        // Where no name is asked, a word is a word.
        bad(HEAD + "qrstuvw;", 1, HEAD.length());
        bad(HEAD + "on i qrstuvw;", 1, HEAD.length() + 5);
    }

    private static void namesAreLetters() {
        due.at("I NAMES: .. letters");
        ProtocolAtlas x = good("agents 2 states az,z,a;", 1);
        due.is("z", x.letter(0, 1, 0), 26);
        due.is("a", x.letter(0, 2, 0), 1);
        for (int b : new int[] {'a' - 1, 'z' + 1, 'A', 'Z', '_', '-', '0', '9', 0, 127, 128, 255}) {
            bad("agents 2 states " + (char) b + ";", 1, 16);
            bad("agents 2 states a" + (char) b + ";", 1, 17);
        }
    }

    private static void namesUnlike() {
        due.at("I NAMES: .. all unlike (of all three)");
        bad("agents 2 states a,a;", 3, 18);
        bad("agents 2 states a,b,c,d,e,a;", 3, 26);
        bad("agents 2 states abcdef,abcdef;", 3, 23);
        int n = HEAD.length();
        bad(HEAD + "home s,s;", 3, n + 7);
        bad(HEAD + "messages m,m;", 3, n + 11);
        bad(HEAD + "home h;", 3, n + 5);
        bad(HEAD + "messages i;", 3, n + 9);
        bad(HEAD + "home s,t;messages m,t;", 3, n + 20);
        bad(HEAD + "messages m,n;home s,n;", 3, n + 20);
        good("agents 2 states a,aa,aaa,aaaa,aaaaa,aaaaaa;home b,ba,ab;messages abcdef,abcdeg,bbcdef;", 3);
        // A table ahead has no part in it.
        ProtocolAtlas x = good("agents 2 states a;home b;messages c;", 3);
        Due.feed(x, "agents 2 states c;home a;messages b;");
        due.is("table()", x.table(), 3);
    }

    private static void noOwnWord() {
        due.at("I NAMES: .. no OWN WORD; where a NAME is asked, an OWN WORD so (whole, at its first byte)");
        for (String own : OWN_WORDS) {
            bad("agents 2 states " + own + ";", 1, 16);
            bad("agents 2 states a," + own + ";", 1, 18);
            bad(HEAD + "home " + own + ";", 1, HEAD.length() + 5);
            bad(HEAD + "messages " + own + ";", 1, HEAD.length() + 9);
            bad(HEAD + "never 1 " + own + ";", 1, HEAD.length() + 8);
            bad(HEAD + "wants " + own + " i;", 1, HEAD.length() + 6);
            bad(HEAD + "on i to " + own + ";", 1, HEAD.length() + 8);
            String less = own.substring(0, own.length() - 1);
            if (less.length() <= 6 && !less.equals("o")) {
                good("agents 2 states " + less + ";", 1);
            }
            if (own.length() < 6) {
                good("agents 2 states " + own + "x,x" + own + ";", 1);
            }
        }
        // Words of the document that are no own words.
        good("agents 2 states or,count,rule,name,state,agent;home homes;messages sent;", 3);
    }

    private static void numbersOneDigit() {
        due.at("I NUMBERS: 1 digit; where a number is asked, a 2nd digit at itself");
        bad("agents 22 states i;", 1, 8);
        bad("agents 222 states i;", 1, 8);
        bad("agents 02 states i;", 1, 8);
        bad("agents  33", 1, 9);
        bad(HEAD + "never 11 i;", 1, HEAD.length() + 7);
        bad(HEAD + "never 1 i and 11 w;", 1, HEAD.length() + 15);
        bad("agents 2 2 states i;", 1, 9);
        bad("agents 2. states i;", 1, 8);
        bad("agents +2 states i;", 1, 7);
        // Where none is asked, it is whole, at its first byte.
        bad("agents 2 states 22;", 1, 16);
        bad(HEAD + "22;", 1, HEAD.length());
    }

    private static void blanks() {
        due.at("I Blanks (10, 32) are where one likes");
        good(" \n agents \n 2 \n states \n i \n , \n w \n ; \n on \n i \n to \n w \n ; \n ", 2);
        good("agents\n2\nstates\ni;", 1);
        good("agents 2 states i,w;on i to w;", 2);
        good("agents 2 states i ,w ;", 1);
        for (int b : new int[] {0, 9, 11, 12, 13, 31, 33, 127, 160, 255}) {
            bad((char) b + "agents 2 states i;", 1, 0);
            bad("agents" + (char) b + "2 states i;", 1, 6);
            bad("agents 2 states i" + (char) b + ";", 1, 17);
            bad("agents 2 states i;" + (char) b, 1, 18);
        }
        bad("agents 2 states i w;", 1, 18);
        bad("agents 2 states i; o n i to i;", 1, 19);
    }

    private static void blanksBetween() {
        due.at("I words and numbers side by side need one");
        bad("agents2 states i;", 1, 6);
        bad("agents 2states i;", 1, 8);
        bad("agents 2 statesi;", 1, 9);
        bad(HEAD + "never1 i;", 1, HEAD.length() + 5);
        bad(HEAD + "never 1i;", 1, HEAD.length() + 7);
        bad(HEAD + "never 1 i and1 w;", 1, HEAD.length() + 13);
        bad(HEAD + "never 1 i1;", 1, HEAD.length() + 9);
        bad(HEAD + "oni to w;", 1, HEAD.length());
        // Two names or a name and a word are one name then.
        bad(HEAD + "on ito w;", 3, HEAD.length() + 3);
        bad(HEAD + "on i tow;", 1, HEAD.length() + 5);
        // Signs need none.
        good("agents 2 states i,w;never 1 i;on i to w;", 3);
    }

    private static void endsTooSoon() {
        due.at("I FAULTS 1: .. at the text's length, if it ends too soon");
        String text = "agents 2 states i , w ; home s ; messages m ; order loose ; never 1 i and 2 w ; wants i w ; "
                + "on i with m to w sends m ; at s with m to s replies m tells m some w ; ";
        int ends = 0;
        int statements = 0;
        // Cut behind a token, and behind a blank: without the last ; it lacks what is asked next.
        for (int k = 0; k < text.length(); k++) {
            if (text.charAt(k) != ' ') {
                continue;
            }
            if (text.charAt(k - 1) == ';') {
                statements++;
                good(text.substring(0, k), statements);
                good(text.substring(0, k + 1), statements);
            } else {
                bad(text.substring(0, k), 1, k);
                bad(text.substring(0, k + 1), 1, k + 1);
                bad(text.substring(0, k) + "\n\n", 1, k + 2);
                ends++;
            }
        }
        // Of 49 tokens 8 are the ends of statements.
        due.is("cut so many times", ends, 41);
        bad("", 1, 0);
        bad(" ", 1, 1);
        bad("\n\n\n", 1, 3);
        bad(" ".repeat(1600), 1, 1600);
    }

    private static void wordsWhole() {
        due.at("I FAULTS 1: words and numbers whole, at their first byte");
        bad("agentz 2 states i;", 1, 0);
        bad("agent 2 states i;", 1, 0);
        bad("agentss 2 states i;", 1, 0);
        bad("agents 2 statez i;", 1, 9);
        bad("agents 2 i;", 1, 9);
        bad(HEAD + "onn i to w;", 1, HEAD.length());
        bad(HEAD + "on i too w;", 1, HEAD.length() + 5);
        bad(HEAD + "order looser;", 1, HEAD.length() + 6);
        bad(HEAD + "never 1 i andd 1 w;", 1, HEAD.length() + 10);
        bad(HEAD + "states x;", 1, HEAD.length());
        bad(HEAD + "12 i;", 1, HEAD.length());
        bad(HEAD + "on 12 to i;", 1, HEAD.length() + 3);
        bad(HEAD + "on i 12 w;", 1, HEAD.length() + 5);
        // More letters than a number of 64 bits holds: still no own word.
        bad("a".repeat(12) + "agents 2 states i;", 1, 0);
        bad("agents" + "s".repeat(20) + " 2 states i;", 1, 0);
    }

    private static void oneTooManyWhateverStands() {
        due.at("I FAULTS 5: whatever stands there");
        String sixty = "agents 2 states i;" + "order kept;".repeat(59);
        String seven = "agents 2 states a,b,c,d,e,f,";
        String three = HEAD + "never 1 i and 1 w and 1 h and ";
        String home = HEAD + "home a,b,c,d,e,f,";
        String messages = HEAD + "messages a,b,c,d,e,f,";
        for (String what : new String[] {";", ",", "?", "7", "77", "0", "a", "x", "agents", "on", "qrstuvwx",
            "" + (char) 0, "" + (char) 255, "\t"}) {
            bad(sixty + what, 5, sixty.length());
            bad(sixty + " \n" + what, 5, sixty.length() + 2);
            bad(seven + what, 5, seven.length());
            bad(seven + "  " + what + ";", 5, seven.length() + 2);
            bad(home + what, 5, home.length());
            bad(messages + what, 5, messages.length());
            bad(three + what, 5, three.length());
            bad(three + "\n" + what, 5, three.length() + 1);
        }
        String and = three.trim();
        bad(and + "7 i;", 5, and.length());
        bad(and + ";", 5, and.length());
    }

    private static void oneTooManyOnlyIfAnythingStands() {
        due.at("I FAULTS 5: .. if anything does");
        String sixty = "agents 2 states i;" + "order kept;".repeat(59);
        good(sixty, 60);
        good(sixty + " ", 60);
        good(sixty + "\n \n", 60);
        String seven = "agents 2 states a,b,c,d,e,f,";
        bad(seven, 1, seven.length());
        bad(seven + "  ", 1, seven.length() + 2);
        String home = HEAD + "home a,b,c,d,e,f,";
        bad(home, 1, home.length());
        String messages = HEAD + "messages a,b,c,d,e,f,";
        bad(messages + "\n", 1, messages.length() + 1);
        String three = HEAD + "never 1 i and 1 w and 1 h and";
        bad(three, 1, three.length());
        bad(three + "  ", 1, three.length() + 2);
    }

    private static void oneTooManyAtFirstByte() {
        due.at("I FAULTS 5: a second home, messages, wants, a 5th never, a 17th RULE at its first byte");
        String home = HEAD + "home s; ";
        for (String rest : new String[] {"home t;", "home s;", "home", "home;", "home 7", "home i;"}) {
            bad(home + rest, 5, home.length());
        }
        String messages = HEAD + "messages m;\n";
        for (String rest : new String[] {"messages n;", "messages m;", "messages", "messages;", "messages 7"}) {
            bad(messages + rest, 5, messages.length());
        }
        String wants = HEAD + "wants i w;  ";
        for (String rest : new String[] {"wants i w;", "wants x x;", "wants", "wants;", "wants 7"}) {
            bad(wants + rest, 5, wants.length());
        }
        String nevers = HEAD + "never 1 i;".repeat(4) + " ";
        for (String rest : new String[] {"never 1 i;", "never 9 i;", "never x", "never;", "never"}) {
            bad(nevers + rest, 5, nevers.length());
        }
        String rules = FULL + "on i to w;".repeat(16) + " ";
        for (String rest : new String[] {"on i to w;", "on x;", "on", "at s with m to s;", "at x", "at;"}) {
            bad(rules + rest, 5, rules.length());
        }
        good(nevers + "on i to w;", 6);
        good(rules + "never 1 i;wants i w;order loose;", 22);
    }

    private static void firstAlongTheText() {
        due.at("I FAULTS, the first along the text");
        int n = HEAD.length();
        bad("agents 7 states i,i;", 2, 7);
        bad("agents 2 states i,i;never 9 i;", 3, 18);
        bad(HEAD + "never 9 x;", 2, n + 6);
        bad(HEAD + "never 1 x and 9 i;", 3, n + 8);
        bad(HEAD + "home s;home t;?", 5, n + 7);
        bad(HEAD + "?home s;home t;", 1, n);
        bad(HEAD + "wants x i;wants i i;", 3, n + 6);
        bad("agents 2 states a,b,c,d,e,f,g,a;", 5, 28);
        bad("agents 2 states a,b,c,a,e,f,g;", 3, 22);
        String sixty = "agents 2 states i;" + "order kept;".repeat(59);
        bad(sixty + "agents", 5, sixty.length());
        String rules = HEAD + "on i to w;".repeat(16);
        bad(rules + "on x to w;never 9 i;", 5, rules.length());
        bad(rules + "never 9 i;on x to w;", 2, rules.length() + 6);
    }

    private static void tooManyWorlds() {
        due.at("I FAULTS 6: more than 600 FOLDED WORLDS, at the text's length");
        ProtocolAtlas x = good(JUST, 10);
        due.is("has(5)", x.has(5), 600);
        due.is("the last one", x.world(599, 0), x.has(7));
        due.is("none behind it", x.world(600, 0), NONE);
        bad(ONE_MORE, 6, ONE_MORE.length());
        bad(ONE_MORE + " \n", 6, ONE_MORE.length() + 2);
        bad(" " + ONE_MORE, 6, ONE_MORE.length() + 1);
        // With a table ahead: all stays, and the next table is as if there had been no fault.
        Due.feed(x, ONE_MORE);
        due.is("table()", x.table(), NONE);
        due.is("fault(0)", x.fault(0), 6);
        due.is("has(5)", x.has(5), 600);
        due.is("has(1)", x.has(1), 3);
        due.is("has(4)", x.has(4), 7);
        due.is("the last one", x.world(599, 0), x.has(7));
        Due.feed(x, "agents 2 states i;");
        due.is("table()", x.table(), 1);
        due.is("has(5)", x.has(5), 1);
    }

    private static void tooManyWorldsOnlyIfNothingElse() {
        due.at("I FAULTS 6: .. if nothing else is wrong");
        int n = ONE_MORE.length();
        bad(ONE_MORE + "x", 1, n);
        bad(ONE_MORE + "never 9 a;", 2, n + 6);
        bad(ONE_MORE + "never 1 x;", 3, n + 8);
        bad(ONE_MORE + "home x;", 5, n);
        bad(ONE_MORE + "order kept", 1, n + 10);
        // It is counted by all that is told, also behind the rows.
        bad(ONE_MORE + "never 1 a;", 6, n + 10);
    }

    private static void fullTapes() {
        due.at("I texts of 1600 bytes");
        String text = "agents 2 states i;";
        good(text + " ".repeat(1600 - text.length()), 1);
        good(" ".repeat(1600 - text.length()) + text, 1);
        bad(" ".repeat(1599) + "?", 1, 1599);
        bad(text + " ".repeat(1599 - text.length()) + "?", 1, 1599);
        bad("?".repeat(1600), 1, 0);
        bad("a".repeat(1600), 1, 0);
        bad("9".repeat(1600), 1, 0);
        bad("agents 2 states " + "b".repeat(1584), 1, 22);
        bad("agents " + "2".repeat(1593), 1, 8);
        String head = "agents 2 states i,w;home s;messages m;";
        String rows = "at s with m to s replies m tells m some w;".repeat(16);
        due.is("has(4)", good(head + rows + "\n".repeat(1600 - head.length() - rows.length()), 19).has(4), 16);
    }

    /** Whatever was read ahead of it, a table is what its own text tells. */
    private static void nothingIsLeftOfAnother() {
        due.at("I a table is what its own text tells");
        String rich = "agents 4 states a,b,c,d,e,f;home g,j;messages p,q,r,s,t,u;order loose;never 1 a and 1 b and 1 c;"
                + "never 1 a;never 1 b;never 1 a and 1 a;wants a b;" + "at g with p to g replies q tells r some b;".repeat(15)
                + "on f with u to e sends t;";
        String plain = "agents 2 states a,b,c;on a to a;on a to b;never 2 b;";
        String ask = "agents 2 states a;home s;messages m,n;on a to a sends m;on a to a sends n;at s with m to s replies m;"
                + "at s with n to s replies n;on a with m to a;";
        // A text may be read where the one ahead was, or the one ahead of that; a refused one, too.
        String[][] ahead = {{rich}, {rich, plain}, {rich, ask}, {rich, rich}, {rich + "?"}, {rich, rich + "?"},
            {rich, plain, rich + "on"}, {rich, plain, rich + "never 9 a;"}};
        for (String[] texts : ahead) {
            ProtocolAtlas x = new ProtocolAtlas();
            for (String text : texts) {
                Due.feed(x, text);
                x.table();
            }
            Due.feed(x, plain);
            due.is("table()", x.table(), 4);
            isPlain(x);
            ProtocolAtlas y = new ProtocolAtlas();
            for (String text : texts) {
                Due.feed(y, text);
                y.table();
            }
            Due.feed(y, ask);
            due.is("table()", y.table(), 8);
            due.is("order kept: m came second", takeSecond(y), 0);
        }
    }

    private static void isPlain(ProtocolAtlas x) {
        int[] has = {2, 3, 0, 0, 2, 3, 4, 2, 8, 1, 1, 3, 0, 0};
        for (int what = 0; what < has.length; what++) {
            due.is("has(" + what + ")", x.has(what), has[what]);
        }
        for (int r = 0; r < 2; r++) {
            int[] rule = {0, 0, NONE, r, NONE, NONE, NONE, 0};
            for (int what = 0; what < 8; what++) {
                due.is("rule(" + r + ", " + what + ")", x.rule(r, what), rule[what]);
            }
        }
        due.is("rule(2, 0)", x.rule(2, 0), NONE);
        due.is("starving(0)", x.starving(0), 0);
        due.is("starving(1)", x.starving(1), 0);
        due.is("parts", x.part(2, 1), 2);
        due.is("parts", x.part(2, 0), 1);
        due.is("parts", x.part(3, 0), NONE);
        due.is("world(1, 6)", x.world(1, 6), 1);
        due.is("chance(1)", x.chance(1), 1);
        // By the seed until both are in b, where no rule is: a to a may come ahead of that.
        for (int k = 0; k < 40; k++) {
            x.chance(100);
        }
        due.is("stuck", x.now(NONE, 1), 2);
        due.is("chance(100)", x.chance(100), 0);
    }
}
