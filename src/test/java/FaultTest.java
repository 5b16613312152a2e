import java.util.Random;

/** Texts and their faults: promises 4 and 5, by hand and by texts of chance (always the same ones). */
public final class FaultTest {
    private static final Due due = new Due();
    private static final String HEAD = "agents 2 states i,w,h;";

    public static void main(String[] args) {
        whatEndsTooSoon();
        wordsAndBlanks();
        numbers();
        names();
        oneTooMany();
        statements();
        longTexts();
        tooManyWorlds();
        whatStays();
        byChance(args.length > 0 ? Integer.parseInt(args[0]) : 20000, 5);
        due.finish();
    }

    /** The text has the fault at the place; it must be the last thing that the text has, too. */
    private static void bad(String text, int fault, int place) {
        due.at("\"" + text.replace('\n', '/') + "\"");
        ProtocolAtlas x = new ProtocolAtlas();
        Due.feed(x, text);
        due.is("table()", x.table(), -1);
        due.is("fault(0)", x.fault(0), fault);
        due.is("fault(1)", x.fault(1), place);
        due.is("has(0)", x.has(0), 0);
        due.is("status(1)", x.status(1), 1);
        NaiveText naive = new NaiveText(text);
        naive.read();
        due.is("the naive reader's fault", naive.fault, fault == 6 ? 0 : fault);
        due.is("the naive reader's place", naive.place, fault == 6 ? -1 : place);
    }

    private static void good(String text, int statements) {
        due.at("\"" + text.replace('\n', '/') + "\"");
        ProtocolAtlas x = new ProtocolAtlas();
        Due.feed(x, text);
        due.is("table()", x.table(), statements);
        due.is("fault(0)", x.fault(0), 0);
        due.is("fault(1)", x.fault(1), -1);
        due.is("fault(2)", x.fault(2), -1);
        due.is("fault(-1)", x.fault(-1), -1);
        due.is("status(1)", x.status(1), 0);
        due.is("the naive reader", new NaiveText(text).read(), statements);
    }

    private static void whatEndsTooSoon() {
        bad("", 1, 0);
        bad("   ", 1, 3);
        bad("\n", 1, 1);
        bad("agents", 1, 6);
        bad("agents ", 1, 7);
        bad("agents 2", 1, 8);
        bad("agents 2 states", 1, 15);
        bad("agents 2 states i", 1, 17);
        bad("agents 2 states i,", 1, 18);
        bad("agents 2 states i, ", 1, 19);
        bad(HEAD + "order", 1, HEAD.length() + 5);
        bad(HEAD + "on i to", 1, HEAD.length() + 7);
        bad(HEAD + "on i to w", 1, HEAD.length() + 9);
        bad(HEAD + "never 2 i and ", 1, HEAD.length() + 14);
    }

    private static void wordsAndBlanks() {
        good("agents 2 states i;", 1);
        good("agents\n2\nstates\ni\n;\n", 1);
        good("  agents  2  states  i  ,  w  ;  ", 1);
        good("agents 2 states i,w;on i to w;on w to i;", 3);
        bad("agent 2 states i;", 1, 0);
        bad("agen", 1, 0);
        bad("agentss 2 states i;", 1, 0);
        bad("Agents 2 states i;", 1, 0);
        bad("2 agents", 1, 0);
        bad(";", 1, 0);
        bad("agents2 states i;", 1, 6);
        bad("agents 2states i;", 1, 8);
        bad("agents 2 state i;", 1, 9);
        bad("agents 2 states i;\tnever 1 i;", 1, 18);
        bad("agents 2 states i;\rnever 1 i;", 1, 18);
        bad("agents 2 states i;;", 1, 18);
        bad("agents 2 states i" + (char) 0 + ";", 1, 17);
        bad("agents 2 states " + (char) 233 + ";", 1, 16);
        bad(HEAD + "never 2i;", 1, HEAD.length() + 7);
        bad(HEAD + "never2 i;", 1, HEAD.length() + 5);
        bad(HEAD + "never 1 i1;", 1, HEAD.length() + 9);
        bad(HEAD + "orders kept;", 1, HEAD.length());
        bad(HEAD + "order keep;", 1, HEAD.length() + 6);
        bad(HEAD + "to i;", 1, HEAD.length());
    }

    private static void numbers() {
        good("agents 3 states i;", 1);
        good("agents 4 states i;", 1);
        bad("agents 0 states i;", 2, 7);
        bad("agents 1 states i;", 2, 7);
        bad("agents 5 states i;", 2, 7);
        bad("agents 9", 2, 7);
        bad("agents 22 states i;", 1, 8);
        bad("agents 02 states i;", 1, 8);
        bad("agents 2 2 states i;", 1, 9);
        bad("agents two states i;", 1, 7);
        bad("agents -2 states i;", 1, 7);
        good(HEAD + "never 1 i;never 4 h;", 3);
        bad(HEAD + "never 0 i;", 2, HEAD.length() + 6);
        bad(HEAD + "never 5 i;", 2, HEAD.length() + 6);
        bad(HEAD + "never 11 i;", 1, HEAD.length() + 7);
        bad(HEAD + "never i;", 1, HEAD.length() + 6);
        bad(HEAD + "never 1 i and w;", 1, HEAD.length() + 14);
    }

    private static void names() {
        good("agents 2 states abcdef,or,agent,o,state;", 1);
        bad("agents 2 states abcdefg;", 1, 22);
        bad("agents 2 states abcdefghijklmnop", 1, 22);
        for (String own : ("agents states home messages order kept loose never and wants on with to sends at replies "
                + "tells none some").split(" ")) {
            bad("agents 2 states i," + own + ";", 1, 18);
            bad(HEAD + "on " + own + " to i;", 1, HEAD.length() + 3);
        }
        bad("agents 2 states i,w,i;", 3, 20);
        bad(HEAD + "home s,t,i;", 3, HEAD.length() + 9);
        bad(HEAD + "home s,t;messages m,t;", 3, HEAD.length() + 20);
        bad(HEAD + "never 1 x;", 3, HEAD.length() + 8);
        bad(HEAD + "wants i x;", 3, HEAD.length() + 8);
        bad(HEAD + "wants x i;", 3, HEAD.length() + 6);
        bad(HEAD + "on s to i;home s;", 3, HEAD.length() + 3);
        bad(HEAD + "home s;on s to i;", 3, HEAD.length() + 10);
        bad(HEAD + "on i with m to w;messages m;", 3, HEAD.length() + 10);
        bad(HEAD + "messages m;on i with w to w;", 3, HEAD.length() + 21);
        bad(HEAD + "messages m;on i to m;", 3, HEAD.length() + 19);
        bad(HEAD + "messages m;on i to w sends h;", 3, HEAD.length() + 27);
        bad(HEAD + "at s with m to s;", 3, HEAD.length() + 3);
        String full = HEAD + "home s,t;messages m,n;";
        int n = full.length();
        bad(full + "at i with m to s;", 3, n + 3);
        bad(full + "at s with s to s;", 3, n + 10);
        bad(full + "at s with m to i;", 3, n + 15);
        bad(full + "at s with m to s replies i;", 3, n + 25);
        bad(full + "at s with m to s tells s;", 3, n + 23);
        bad(full + "at s with m to s none m;", 3, n + 22);
        bad(full + "at s with m to s some t;", 3, n + 22);
    }

    private static void oneTooMany() {
        bad("agents 2 states a,b,c,d,e,f,", 1, 28);
        bad("agents 2 states a,b,c,d,e,f,;", 5, 28);
        bad("agents 2 states a,b,c,d,e,f, a;", 5, 29);
        bad("agents 2 states a,b,c,d,e,f,7", 5, 28);
        good("agents 2 states a,b,c,d,e,f;home g,j,k,l,m,n;messages o,p,q,r,s,t;", 3);
        bad(HEAD + "home a,b,c,d,e,f,g;", 5, HEAD.length() + 17);
        bad(HEAD + "messages a,b,c,d,e,f,\n,;", 5, HEAD.length() + 22);
        bad(HEAD + "home s;home t;", 5, HEAD.length() + 7);
        bad(HEAD + "home s; home", 5, HEAD.length() + 8);
        bad(HEAD + "messages s;messages;", 5, HEAD.length() + 11);
        bad(HEAD + "wants i w;wants i w;", 5, HEAD.length() + 10);
        bad(HEAD + "never 1 i and 1 w and 1 h and ;", 5, HEAD.length() + 30);
        bad(HEAD + "never 1 i and 1 w and 1 h and9 i;", 5, HEAD.length() + 29);
        bad(HEAD + "never 1 i and 1 w and 1 h and", 1, HEAD.length() + 29);
        String nevers = HEAD + "never 1 i;never 1 i;never 1 i and 1 w and 1 h;never 1 i;";
        good(nevers, 5);
        bad(nevers + "never", 5, nevers.length());
        StringBuilder rules = new StringBuilder(HEAD + "home s;messages m;");
        for (int k = 0; k < 8; k++) {
            rules.append("on i to i;at s with m to s;");
        }
        good(rules.toString(), 19);
        bad(rules + "on i to i;", 5, rules.length());
        bad(rules + " at", 5, rules.length() + 1);
        StringBuilder many = new StringBuilder("agents 2 states i;");
        for (int k = 1; k < 60; k++) {
            many.append("order kept;");
        }
        good(many.toString(), 60);
        good(many + " \n ", 60);
        bad(many + "order kept;", 5, many.length());
        bad(many + " ?", 5, many.length() + 1);
        bad(many + "agents", 5, many.length());
    }

    /** The tape is full, with as many tokens as there can be, and with as long ones. */
    private static void longTexts() {
        bad(";".repeat(1600), 1, 0);
        bad("7".repeat(1600), 1, 0);
        bad("a".repeat(1600), 1, 0);
        bad("a7".repeat(800), 1, 0);
        bad(" ".repeat(1600), 1, 1600);
        bad("agents 2 states " + "b".repeat(1584), 1, 22);
        bad("agents " + "2".repeat(1593), 1, 8);
        good("agents 2 states i;" + " ".repeat(1582), 1);
        good(" ".repeat(1582) + "agents 2 states i;", 1);
        bad("agents 2 states i;" + ";".repeat(1582), 1, 18);
        bad("agents 2 states " + "a".repeat(12) + "agents", 1, 22);
        bad("a".repeat(12) + "agents 2 states i;", 1, 0);
    }

    private static void statements() {
        bad("home s;" + HEAD, 1, 0);
        bad(HEAD + HEAD, 1, HEAD.length());
        good(HEAD + "order loose;order kept;order loose;", 4);
        good(HEAD + "messages m;on i with m to w sends m;on i to w sends m;on i with m to w;", 5);
        String full = HEAD + "home s,t;messages m,n;";
        int n = full.length();
        good(full + "at s with m to t replies n tells m none i;at s with m to t tells m some i;", 5);
        good(full + "at s with m to t replies n;at s with m to t none i;at s with m to t;", 6);
        bad(full + "at s to t;", 1, n + 5);
        bad(full + "at s with m tells n;", 1, n + 12);
        bad(full + "at s with m to t tells m replies n;", 1, n + 25);
        bad(full + "at s with m to t none i some i;", 1, n + 24);
        bad(full + "at s with m to t sends m;", 1, n + 17);
        bad(full + "on i to w replies m;", 1, n + 10);
        bad(full + "on i sends m to w;", 1, n + 5);
        bad(full + "on i, w to w;", 1, n + 4);
        bad(full + "wants i,w;", 1, n + 7);
        bad(full + "never 1 i, 1 w;", 1, n + 9);
        bad(full + "order kept loose;", 1, n + 11);
    }

    private static void tooManyWorlds() {
        String text = "agents 4 states a,b,c,d,e,f;home s;messages m,n;"
                + "on a to b sends m;on b to c;on c to d sends n;on d to e;on e to f;on f to a;"
                + "at s with m to s tells n;at s with n to s replies m;";
        bad(text, 6, text.length());
        bad(text + "  ", 6, text.length() + 2);
        bad(text + "x", 1, text.length());
        String just = "agents 3 states a,b,c;home s;messages m;at s with m to s replies m tells m;on c to b;"
                + "on c with m to c sends m;on a to c;on c to a;on c to c;on b to c sends m;";
        good(just, 10);
        due.is("has(5)", Due.of(just).has(5), 600);
        String oneMore = "agents 3 states a,b,c,d;home s,t;messages m,n;at s with m to s tells m;"
                + "on b with m to c sends n;on b with m to a;on a to c sends n;on a to a;on a to b sends m;"
                + "at s with m to t;";
        bad(oneMore, 6, oneMore.length());
    }

    /** With a fault all stays, but the tape goes. */
    private static void whatStays() {
        due.at("what stays");
        ProtocolAtlas x = Due.of("agents 2 states i,w;on i to w;on w to i;");
        x.move(0, 1);
        Due.feed(x, 0, 1);
        x.see(1);
        x.seed(77);
        Due.feed(x, "agents 3 states k;nonsense");
        due.is("table()", x.table(), -1);
        due.is("fault(1)", x.fault(1), 18);
        due.is("feed()", x.feed(0, 0, 0, 0, 0), 20);
        due.is("has(0)", x.has(0), 2);
        due.is("has(1)", x.has(1), 2);
        due.is("has(12)", x.has(12), 1);
        due.is("has(13)", x.has(13), 1);
        due.is("now(1, 0)", x.now(1, 0), 1);
        due.is("letter(0, 0, 0)", x.letter(0, 0, 0), 9);
        x.end(0);
        Due.feed(x, "agents 3 states k;");
        due.is("table()", x.table(), 1);
        due.is("fault(0)", x.fault(0), 0);
        due.is("fault(1)", x.fault(1), -1);
        due.is("has(12)", x.has(12), 0);
        due.is("has(13)", x.has(13), 0);
        due.is("now(1, 0)", x.now(1, 0), 0);
        due.is("undo()", x.undo(), false);
    }

    private static void byChance(int texts, int seed) {
        Random random = new Random(seed);
        int[] faults = new int[7];
        ProtocolAtlas x = new ProtocolAtlas();
        for (int k = 0; k < texts && due.wrongOnes() == 0; k++) {
            String text = Naive.random(random).told(random);
            for (int i = random.nextInt(3); i >= 0; i--) {
                text = spoil(text, random);
            }
            if (text.length() > 1600) {
                continue;
            }
            due.at("\"" + text.replace('\n', '/') + "\"");
            NaiveText naive = new NaiveText(text);
            int statements = naive.read();
            Due.feed(x, text);
            int got = x.table();
            if (x.fault(0) == 6) {
                due.is("fault(1)", x.fault(1), text.length());
                due.is("the naive reader's fault", naive.fault, 0);
                continue;
            }
            faults[naive.fault]++;
            due.is("table()", got, statements);
            due.is("fault(0)", x.fault(0), naive.fault);
            due.is("fault(1)", x.fault(1), naive.place);
        }
        System.out.println("faults 0 to 6: " + java.util.Arrays.toString(faults));
    }

    private static String spoil(String text, Random random) {
        int k = random.nextInt(text.length() + 1);
        int j = Math.min(text.length(), k + random.nextInt(4));
        String signs = " \n,;abzio0123459-AZ\t";
        String[] pieces = {" on ", " with ", " to ", " and 1 ", "never 1 i;", ";home zq;", ";messages zq,zr;",
            ", zx", ",za,zb,zc,zd,ze", " none i", " some w", " tells ok", ";wants i i", " agents ", ";order loose;"};
        switch (random.nextInt(7)) {
            case 0:
                return text.substring(0, k);
            case 1:
                return text.substring(0, k) + text.substring(j);
            case 2:
                return text.substring(0, k) + signs.charAt(random.nextInt(signs.length())) + text.substring(k);
            case 3:
                return text.substring(0, k) + signs.charAt(random.nextInt(signs.length())) + text.substring(j);
            case 4:
                return text.substring(0, k) + pieces[random.nextInt(pieces.length)] + text.substring(k);
            case 5:
                int from = text.indexOf(';') + 1;
                return text + text.substring(random.nextInt(text.length() - from + 1) + from);
            default:
                return text.replaceFirst(" ", "");
        }
    }
}
