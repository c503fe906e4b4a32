import java.io.IOException;
import java.lang.reflect.Constructor;
import java.lang.reflect.Field;
import java.lang.reflect.Method;
import java.lang.reflect.Modifier;
import java.nio.file.Files;
import java.nio.file.Path;
import java.util.HashSet;
import java.util.List;
import java.util.Map;
import java.util.Set;
import java.util.TreeMap;
import java.util.regex.Matcher;
import java.util.regex.Pattern;

/** The public face, and those rules of LANGUAGE.md that can be seen in the file and in the class that comes of it. */
public final class FaceTest {
    private static final Path FILE = Path.of("src/main/java/KnitStreets.java");
    private static final String FACE = "knit 2, told 2, as 2, turns 2, set 3, drops 2, hooks 2, rule 2, deal 1, seed 1,"
            + " nights 1, town 1, way 4, reach 2, pulled 2, worst 1, needs 2, behind 2, gone 2, thick 3, becomes 3,"
            + " like 2, fee 0, fine 1, feed 3, trim 1, text 0, textTold 2, why 1, sheet 3, mark 3, pour 1, reads 1,"
            + " copy 5, lay 3, ask 2, item 2, rest 2, tell 1, check 1, keep 0, back 0, count 1";
    private static final Map<String, Integer> CONSTANTS = Map.of("BAD", -1000000001, "NO", -1000000002, "FULL",
            -1000000003, "NONE", -1000000005, "NOTHING", -1000000011, "KIND", -1000000012, "INDEX", -1000000013,
            "SIZE", -1000000014);
    private static final List<String> RULED_OUT = List.of("\\bthrow", "\\btry\\b", "\\bcatch\\b", "\\bsynchronized\\b",
            "\\bassert\\b", "\\bimport\\b", "\\bpackage\\b", "->", "::", "static \\{", "\\bnative\\b", "\\bvolatile\\b",
            "\\bSystem\\.(?!arraycopy\\b)", "\\bMath\\.\\w+Exact\\b", "\\bprotected\\b", "\\b(var|Object|List|Map)\\b",
            "\\b(equals|hashCode|toString)\\b", "[^\\x00-\\x7f]");
    private static final Due DUE = new Due("FaceTest");

    public static void main(String[] args) throws Exception {
        face();
        constants();
        classes();
        words();
        methods();
        edges();
        DUE.end();
    }

    private static void face() {
        Map<String, Integer> want = new TreeMap<>();
        for (String call : FACE.split(", *")) {
            want.put(call.split(" ")[0], Integer.parseInt(call.split(" ")[1]));
        }
        DUE.so("the class is public and final", KnitStreets.class.getModifiers() == (Modifier.PUBLIC | Modifier.FINAL));
        Constructor<?>[] made = KnitStreets.class.getDeclaredConstructors();
        DUE.so("one constructor", made.length == 1 && made[0].getParameterCount() == 0
                && made[0].getModifiers() == Modifier.PUBLIC);
        for (Method m : KnitStreets.class.getDeclaredMethods()) {
            if (Modifier.isPublic(m.getModifiers())) {
                Integer many = want.remove(m.getName());
                DUE.so("call of the face: " + m, many != null && many == m.getParameterCount());
                DUE.so("it answers an int: " + m, m.getReturnType() == int.class);
                for (Class<?> type : m.getParameterTypes()) {
                    DUE.so("it takes ints: " + m, type == int.class);
                }
            } else {
                DUE.so("private: " + m, Modifier.isPrivate(m.getModifiers()));
            }
        }
        DUE.so("all calls are there, but " + want.keySet(), want.isEmpty());
    }

    private static void constants() throws Exception {
        Set<String> found = new HashSet<>();
        for (Field f : KnitStreets.class.getDeclaredFields()) {
            if (Modifier.isPublic(f.getModifiers())) {
                found.add(f.getName());
                DUE.so("static and final: " + f, Modifier.isStatic(f.getModifiers())
                        && Modifier.isFinal(f.getModifiers()) && f.getType() == int.class);
                DUE.is(f.getName(), f.getInt(null), CONSTANTS.getOrDefault(f.getName(), 0));
            } else {
                DUE.so("private: " + f, Modifier.isPrivate(f.getModifiers()));
            }
        }
        DUE.is("all constants", found.size(), CONSTANTS.size());
    }

    private static void classes() {
        Class<?>[] inside = KnitStreets.class.getDeclaredClasses();
        DUE.so("some twelve classes", inside.length <= 12);
        Set<String> face = new HashSet<>();
        for (String call : FACE.split(", *")) {
            face.add(call.split(" ")[0]);
        }
        for (Class<?> c : inside) {
            DUE.so("static and not public: " + c, Modifier.isStatic(c.getModifiers())
                    && !Modifier.isPublic(c.getModifiers()) && !Modifier.isProtected(c.getModifiers()));
            for (Method m : c.getDeclaredMethods()) {
                DUE.so("no call's name: " + m, !face.contains(m.getName()));
            }
        }
        for (Class<?> c : KnitStreets.class.getNestMembers()) {
            int fields = 0;
            for (Field f : c.getDeclaredFields()) {
                fields += Modifier.isStatic(f.getModifiers()) ? 0 : 1;
                DUE.so("static fields are final: " + f,
                        !Modifier.isStatic(f.getModifiers()) || Modifier.isFinal(f.getModifiers()));
            }
            DUE.so("some twenty fields: " + c, fields <= 20);
            for (Method m : c.getDeclaredMethods()) {
                DUE.so("at most seven parameters: " + m, m.getParameterCount() <= 7);
            }
        }
    }

    /** The file without comments and with its texts and signs taken out. */
    private static String code() throws IOException {
        return Files.readString(FILE).replaceAll("(?s)/\\*.*?\\*/", "").replaceAll("//[^\n]*", "")
                .replaceAll("\"[^\"\n]*\"", "\"\"").replaceAll("'(\\\\.|[^'])'", "' '");
    }

    private static void words() throws IOException {
        String code = code();
        for (String word : RULED_OUT) {
            Matcher found = Pattern.compile(word).matcher(code);
            DUE.so("ruled out: " + word, !found.find());
        }
    }

    private static void methods() throws IOException {
        String[] lines = Files.readString(FILE).split("\n");
        int start = -1;
        String indent = "";
        for (int i = 0; i < lines.length; i++) {
            Matcher head = Pattern.compile("( {4}| {8})[a-zA-Z].*\\) \\{").matcher(lines[i]);
            if (start < 0 && head.matches()) {
                start = i;
                indent = head.group(1);
            } else if (start >= 0 && lines[i].equals(indent + "}")) {
                DUE.so("at most some sixty lines: " + lines[start].trim(), i - start <= 60);
                start = -1;
            }
        }
        DUE.so("the last method ends", start < 0);
    }

    /** The list of edges names tests that there are. */
    private static void edges() throws IOException {
        Matcher named = Pattern.compile("`(\\w+Test)\\.(\\w+)`").matcher(Files.readString(Path.of("src/test/EDGES.md")));
        int many = 0;
        while (named.find()) {
            Path test = Path.of("src/test/java", named.group(1) + ".java");
            DUE.so("there is " + named.group(), Files.exists(test)
                    && Files.readString(test).contains("void " + named.group(2) + "("));
            many++;
        }
        DUE.so("edges are listed", many > 100);
    }
}
