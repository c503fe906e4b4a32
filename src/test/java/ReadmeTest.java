import java.lang.reflect.Method;
import java.nio.file.Files;
import java.nio.file.Path;
import java.util.regex.Matcher;
import java.util.regex.Pattern;

/** The examples of README.md: each call answers what stands behind it there. */
public final class ReadmeTest {
    private static final Pattern CALL = Pattern.compile("town\\.(\\w+)\\((.*)\\); +// (-?\\d+|[A-Z]+)(: .*)?");
    private static final Due DUE = new Due("ReadmeTest");

    public static void main(String[] args) throws Exception {
        KnitStreets town = null;
        boolean inExample = false;
        int calls = 0;
        for (String line : Files.readAllLines(Path.of("README.md"))) {
            if (line.startsWith("```")) {
                inExample = line.equals("```java");
            } else if (inExample && line.equals("KnitStreets town = new KnitStreets();")) {
                town = new KnitStreets();
            } else if (inExample) {
                one(town, line);
                calls++;
            }
        }
        DUE.so("there are examples", calls > 30);
        DUE.end();
    }

    private static void one(KnitStreets town, String line) throws Exception {
        Matcher call = CALL.matcher(line);
        DUE.so("a call and its answer: " + line, call.matches());
        String[] words = call.group(2).isEmpty() ? new String[0] : call.group(2).split(", ");
        Object[] arguments = new Object[words.length];
        Class<?>[] types = new Class<?>[words.length];
        for (int i = 0; i < words.length; i++) {
            arguments[i] = Integer.decode(words[i]);
            types[i] = int.class;
        }
        Method method = KnitStreets.class.getMethod(call.group(1), types);
        DUE.is(line, (Integer) method.invoke(town, arguments), answer(call.group(3)));
    }

    private static int answer(String told) throws Exception {
        return told.matches("-?\\d+") ? Integer.parseInt(told) : KnitStreets.class.getField(told).getInt(null);
    }
}
