import java.io.IOException;
import java.lang.reflect.Constructor;
import java.lang.reflect.Field;
import java.lang.reflect.Method;
import java.lang.reflect.Modifier;
import java.nio.file.Files;
import java.nio.file.Path;
import java.util.ArrayList;
import java.util.List;
import java.util.Set;
import java.util.TreeSet;
import java.util.regex.Matcher;
import java.util.regex.Pattern;

/** What can be seen of the rules of LANGUAGE.md from outside: the face, and words that the class must not use. */
public final class LanguageTest {
    private static final Due due = new Due();
    private static final String FACE = "feed(IIIII)I end(I)Z table()I fault(I)I has(I)I letter(III)I rule(II)I "
            + "world(II)I agent(III)I leads(III)I way(III)I first(I)I part(II)I returns()I starving(I)I uses(I)I "
            + "without(II)I mend()I now(II)I can(II)I move(II)I jump(I)Z chance(I)I undo()Z seed(I)Z see(I)I "
            + "could(I)I tells(I)I spell(I)I which()I image()I octet(I)I on()Z status(I)I";

    public static void main(String[] args) throws IOException {
        String source = Files.readString(Path.of("src/main/java/ProtocolAtlas.java"));
        String code = bare(source);
        face();
        words(code);
        library(code);
        sizes(code);
        classes();
        due.finish();
    }

    /** The source with comments, texts and signs emptied; lines stay where they are. */
    private static String bare(String source) {
        Matcher m = Pattern.compile("/\\*.*?\\*/|//[^\\n]*|\"(?:\\\\.|[^\"\\\\])*\"|'(?:\\\\.|[^'\\\\])'",
                Pattern.DOTALL).matcher(source);
        StringBuilder code = new StringBuilder();
        while (m.find()) {
            String instead = m.group().startsWith("\"") ? "\"\"" : m.group().startsWith("'") ? "0" : "";
            m.appendReplacement(code, instead + "\n".repeat((int) m.group().chars().filter(c -> c == '\n').count()));
        }
        return m.appendTail(code).toString();
    }

    private static String sign(Class<?> type) {
        return type == int.class ? "I" : type == boolean.class ? "Z" : type.getName();
    }

    private static void face() {
        due.at("rule 1");
        Set<String> found = new TreeSet<>();
        for (Method m : ProtocolAtlas.class.getDeclaredMethods()) {
            StringBuilder text = new StringBuilder(m.getName()).append('(');
            for (Class<?> type : m.getParameterTypes()) {
                text.append(sign(type));
            }
            text.append(')').append(sign(m.getReturnType()));
            if (Modifier.isPublic(m.getModifiers())) {
                found.add(text.toString());
            } else {
                due.is(m.getName() + " is private", Modifier.isPrivate(m.getModifiers()), true);
            }
        }
        due.is("the methods of the face " + found, found.equals(new TreeSet<>(List.of(FACE.split(" ")))), true);
        for (Field f : ProtocolAtlas.class.getDeclaredFields()) {
            boolean none = f.getName().equals("NONE");
            due.is(f.getName() + " is private", Modifier.isPrivate(f.getModifiers()), !none);
        }
        Constructor<?>[] constructors = ProtocolAtlas.class.getConstructors();
        due.is("constructors", constructors.length, 1);
        due.is("its parameters", constructors[0].getParameterCount(), 0);
        due.is("final", Modifier.isFinal(ProtocolAtlas.class.getModifiers()), true);
    }

    private static void words(String code) {
        due.at("rules 2, 6");
        for (String word : List.of("throw", "throws", "try", "catch", "finally", "synchronized", "assert", "volatile",
                "native", "package", "default ->", "protected", "instanceof", "hashCode", "toString")) {
            due.is("the word " + word, Pattern.compile("\\b" + word + "\\b").matcher(code).find(), false);
        }
        due.is("a lambda", code.contains("->"), false);
        due.is("a method reference", code.contains("::"), false);
        due.is("texts joined by +", Pattern.compile("\"\"\\s*\\+|\\+\\s*\"\"").matcher(code).find(), false);
        due.is("a static block", Pattern.compile("static\\s*\\{").matcher(code).find(), false);
        due.is("an anonymous class", Pattern.compile("new \\w+\\([^;]*\\)\\s*\\{").matcher(code).find(), false);
    }

    private static void library(String code) {
        due.at("rule 4");
        Set<String> used = new TreeSet<>();
        Matcher m = Pattern.compile("\\b(Arrays|System|Math|Integer|Long|String|StringBuilder|List|ArrayList|Character|"
                + "Object|Boolean)\\.(\\w+)").matcher(code);
        while (m.find()) {
            used.add(m.group());
        }
        used.removeAll(Set.of("Arrays.fill", "System.arraycopy", "Math.min", "Math.max"));
        due.is("library beyond what is known " + used, used.isEmpty(), true);
        List<String> imports = new ArrayList<>();
        m = Pattern.compile("import ([^;]+);").matcher(code);
        while (m.find()) {
            imports.add(m.group(1));
        }
        due.is("imports " + imports, imports.equals(List.of("java.util.Arrays")), true);
    }

    private static void sizes(String code) {
        due.at("rule 11");
        String[] lines = code.split("\n", -1);
        int start = -1;
        String indent = "";
        for (int k = 0; k < lines.length; k++) {
            Matcher m = Pattern.compile("^( {4}| {8})(?:\\w+(?:\\[\\])? )*\\w+\\(([^)]*)\\) \\{").matcher(lines[k]);
            if (m.find()) {
                start = k;
                indent = m.group(1);
                due.is("parameters, line " + (k + 1), m.group(2).split(",").length <= 7, true);
            }
            if (start >= 0 && lines[k].equals(indent + "}")) {
                due.is("a method of " + (k - start) + " lines, line " + (start + 1), k - start <= 60, true);
                start = -1;
            }
        }
    }

    private static void classes() {
        due.at("rules 1, 5, 11");
        List<Class<?>> all = new ArrayList<>(List.of(ProtocolAtlas.class.getDeclaredClasses()));
        all.add(ProtocolAtlas.class);
        due.is("classes", all.size() <= 12, true);
        Set<String> face = new TreeSet<>();
        for (String method : FACE.split(" ")) {
            face.add(method.substring(0, method.indexOf('(')));
        }
        for (Class<?> one : all) {
            int fields = 0;
            for (Field f : one.getDeclaredFields()) {
                boolean isStatic = Modifier.isStatic(f.getModifiers());
                fields += isStatic ? 0 : 1;
                due.is(f + " is final", !isStatic || Modifier.isFinal(f.getModifiers()), true);
            }
            due.is("fields of " + one, fields <= 20, true);
            if (one != ProtocolAtlas.class) {
                due.is(one + " is static", Modifier.isStatic(one.getModifiers()), true);
                for (Method m : one.getDeclaredMethods()) {
                    due.is(m + " bears a name of the face", face.contains(m.getName()), false);
                }
            }
        }
    }
}
