import java.io.DataInputStream;
import java.io.IOException;
import java.util.HashSet;
import java.util.Set;
import java.util.regex.Pattern;

/**
 * What the class takes from the Java library, as the compiled classes name it: nothing but what rule 4 of LANGUAGE.md
 * lists, no types but those of rule 3, and none that a lambda, a + of texts or an exception would bring.
 */
public final class LibraryTest {
    private static final Set<String> CALLS = Set.of("Object.<init>", "System.arraycopy", "Math.max", "Math.min",
            "Math.abs", "Integer.bitCount", "String.length", "String.charAt", "Arrays.copyOf", "Arrays.copyOfRange",
            "Arrays.fill", "StringBuilder.<init>", "StringBuilder.append", "StringBuilder.toString");
    private static final Set<String> TYPES = Set.of("Object", "String", "StringBuilder", "System", "Math", "Integer",
            "Arrays");
    private static final Pattern OWN = Pattern.compile("\\[*L?KnitStreets(\\$[A-Z]\\w*)?;?");
    private static final Due DUE = new Due("LibraryTest");

    private final int[] first;
    private final int[] second;
    private final String[] words;
    private final int[] tags;

    private LibraryTest(DataInputStream in) throws IOException {
        DUE.is("the sign of a class file", in.readInt(), 0xCAFEBABE);
        in.readInt();
        int many = in.readUnsignedShort();
        first = new int[many];
        second = new int[many];
        words = new String[many];
        tags = new int[many];
        for (int i = 1; i < many; i++) {
            tags[i] = in.readUnsignedByte();
            read(in, i);
            // a long and a double take two places
            i += tags[i] == 5 || tags[i] == 6 ? 1 : 0;
        }
    }

    private void read(DataInputStream in, int i) throws IOException {
        switch (tags[i]) {
            case 1:
                words[i] = in.readUTF();
                break;
            case 3:
            case 4:
                in.readInt();
                break;
            case 5:
            case 6:
                in.readLong();
                break;
            case 7:
            case 8:
            case 16:
            case 19:
            case 20:
                first[i] = in.readUnsignedShort();
                break;
            case 15:
                in.readUnsignedByte();
                in.readUnsignedShort();
                break;
            default:
                first[i] = in.readUnsignedShort();
                second[i] = in.readUnsignedShort();
        }
    }

    public static void main(String[] args) throws Exception {
        Set<String> calls = new HashSet<>();
        for (Class<?> c : KnitStreets.class.getNestMembers()) {
            try (DataInputStream in = new DataInputStream(c.getResourceAsStream("/" + c.getName() + ".class"))) {
                new LibraryTest(in).look(c, calls);
            }
        }
        DUE.so("calls of the library are found", calls.contains("System.arraycopy") && calls.contains("Integer.bitCount"));
        DUE.end();
    }

    private void look(Class<?> c, Set<String> calls) {
        for (int i = 1; i < tags.length; i++) {
            if (tags[i] == 7) {
                String type = words[first[i]];
                DUE.so(c + " names a type that it may: " + type, isType(type));
            } else if (tags[i] == 8) {
                DUE.so(c + " has a text of signs 1 to 127", words[first[i]].matches("[\\x01-\\x7f]*"));
            } else if (tags[i] >= 9 && tags[i] <= 11) {
                String owner = words[first[first[i]]];
                String call = owner.substring(owner.lastIndexOf('/') + 1) + "." + words[first[second[i]]];
                calls.add(call);
                DUE.so(c + " takes what it may: " + call, OWN.matcher(owner).matches() || CALLS.contains(call));
            }
            DUE.so(c + " has nothing that is joined when it runs", tags[i] < 15);
        }
    }

    private static boolean isType(String type) {
        boolean library = type.startsWith("java/lang/") && TYPES.contains(type.substring(10))
                || type.equals("java/util/Arrays");
        return library || OWN.matcher(type).matches() || type.matches("\\[{1,2}[BCDFIJSZ]");
    }
}
