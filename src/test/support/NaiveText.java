import java.util.ArrayList;
import java.util.Arrays;
import java.util.HashMap;
import java.util.List;
import java.util.Map;
import java.util.regex.Matcher;
import java.util.regex.Pattern;

/** What a text must look like, told by patterns of statements; finds the first fault that a text has. */
final class NaiveText {
    private static final class Fault extends RuntimeException {
        private static final long serialVersionUID = 1L;
        final int fault;
        final int place;

        Fault(int fault, int place) {
            this.fault = fault;
            this.place = place;
        }
    }

    private static final List<String> OWN = Arrays.asList(("agents states home messages order kept loose never and "
            + "wants on with to sends at replies tells none some").split(" "));

    /** +k: names to be given, k the kind; =k: a name of the kind; #a-b: a number; in brackets what may lack. */
    private static final Map<String, String> PATTERNS = Map.of(
            "agents", "#2-4 states +0", "home", "+1", "messages", "+2", "order", "kept|loose", "never", "*",
            "wants", "=0 =0", "on", "=0 [with:=2] to =0 [sends:=2]",
            "at", "=1 with =2 to =1 [replies:=2] [tells:=2] [none:=0|some:=0]");

    private final String text;
    private final List<String> tokens = new ArrayList<>();
    private final List<Integer> starts = new ArrayList<>();
    private final Map<String, Integer> names = new HashMap<>();
    private int next = 0;
    private int statements = 0;
    int fault = 0;
    int place = -1;

    NaiveText(String text) {
        this.text = text;
        Matcher m = Pattern.compile("[a-z]+|[0-9]+|[^ \\n]", Pattern.DOTALL).matcher(text);
        while (m.find()) {
            tokens.add(m.group());
            starts.add(m.start());
        }
    }

    /** How many statements, or -1. */
    int read() {
        try {
            readAll();
            return statements;
        } catch (Fault f) {
            fault = f.fault;
            place = f.place;
            return -1;
        }
    }

    private int here() {
        return next < tokens.size() ? starts.get(next) : text.length();
    }

    private String token() {
        return next < tokens.size() ? tokens.get(next) : "";
    }

    private boolean glued() {
        if (next == 0 || next >= tokens.size() || !Character.isLetterOrDigit(token().charAt(0))) {
            return false;
        }
        String before = tokens.get(next - 1);
        return before.matches("[a-z]+|[0-9]+") && starts.get(next - 1) + before.length() == starts.get(next);
    }

    private void need(boolean so, int fault, int place) {
        if (!so) {
            throw new Fault(fault, place);
        }
    }

    private void readAll() {
        Map<String, Integer> most = Map.of("home", 1, "messages", 1, "wants", 1, "never", 4, "rule", 16);
        Map<String, Integer> had = new HashMap<>();
        while (next < tokens.size()) {
            need(statements < 60, 5, here());
            String key = token();
            need(key.equals("agents") == (statements == 0), 1, here());
            need(PATTERNS.containsKey(key), 1, here());
            String counted = key.equals("on") || key.equals("at") ? "rule" : key;
            had.merge(counted, 1, Integer::sum);
            need(had.get(counted) <= most.getOrDefault(counted, 99), 5, here());
            next++;
            for (String piece : PATTERNS.get(key).split(" ")) {
                piece(piece);
            }
            word(";");
            statements++;
        }
        need(statements > 0, 1, text.length());
    }

    private void piece(String piece) {
        switch (piece.charAt(0)) {
            case '+':
                list(piece.charAt(1) - '0');
                break;
            case '=':
                name(piece.charAt(1) - '0', false);
                break;
            case '#':
                number(piece.charAt(1) - '0', piece.charAt(3) - '0');
                break;
            case '*':
                counts();
                break;
            case '[':
                for (String choice : piece.substring(1, piece.length() - 1).split("\\|")) {
                    if (token().equals(choice.split(":")[0])) {
                        next++;
                        piece(choice.split(":")[1]);
                        break;
                    }
                }
                break;
            default:
                word(piece);
                break;
        }
    }

    private void word(String choices) {
        need(Arrays.asList(choices.split("\\|")).contains(token()) && !glued(), 1, here());
        next++;
    }

    private void number(int least, int most) {
        need(!token().isEmpty() && Character.isDigit(token().charAt(0)) && !glued(), 1, here());
        need(token().length() == 1, 1, here() + 1);
        int value = token().charAt(0) - '0';
        need(value >= least && value <= most, 2, here());
        next++;
    }

    private void name(int kind, boolean given) {
        need(token().matches("[a-z]+") && !OWN.contains(token()) && !glued(), 1, here());
        need(token().length() <= 6, 1, here() + 6);
        need(given ? !names.containsKey(token()) : Integer.valueOf(kind).equals(names.get(token())), 3, here());
        names.put(token(), kind);
        next++;
    }

    private void list(int kind) {
        name(kind, true);
        for (int many = 1; token().equals(","); many++) {
            next++;
            need(many < 6, token().isEmpty() ? 1 : 5, here());
            name(kind, true);
        }
    }

    private void counts() {
        for (int many = 1; true; many++) {
            number(1, 4);
            name(0, false);
            if (!token().equals("and")) {
                return;
            }
            next++;
            need(many < 3, token().isEmpty() ? 1 : 5, here());
        }
    }
}
