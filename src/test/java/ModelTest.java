import java.lang.reflect.Method;
import java.lang.reflect.Modifier;
import java.util.ArrayList;
import java.util.Comparator;
import java.util.List;
import java.util.Map;
import java.util.Random;

/** Runs of 512 calls by lot, on the class and on the model: each answer must be the same, and no call may throw. */
public final class ModelTest {
    private static final int RUNS = 1000, CALLS = 512;
    private static final int[] ODD = {-1, -2, 0, 1, Integer.MIN_VALUE, Integer.MAX_VALUE, 100, 99999, -99999, 100000,
        32768, -1000000001, -1000000002, -1000000005, -1000000011, 1 << 16, 10000, 9999};
    /** By call, the sort of each of its arguments; a digit: numbers from 0 up to it and what is next to that. */
    private static final Map<String, String> SORTS = Map.ofEntries(Map.entry("knit", "kl"), Map.entry("told", "c8"),
            Map.entry("as", "ck"), Map.entry("turns", "ck"), Map.entry("set", "c3v"), Map.entry("drops", "cl"),
            Map.entry("hooks", "cl"), Map.entry("rule", "3v"), Map.entry("deal", "d"), Map.entry("seed", "a"),
            Map.entry("nights", "v"), Map.entry("town", "5"), Map.entry("way", "clcl"), Map.entry("reach", "cl"),
            Map.entry("pulled", "cl"), Map.entry("worst", "3"), Map.entry("needs", "cl"), Map.entry("behind", "np"),
            Map.entry("gone", "cl"), Map.entry("thick", "cnw"), Map.entry("becomes", "cnw"), Map.entry("like", "sw"),
            Map.entry("fine", "c"), Map.entry("feed", "bbb"), Map.entry("trim", "v"), Map.entry("textTold", "pw"),
            Map.entry("why", "3"), Map.entry("sheet", "swp"), Map.entry("mark", "spf"), Map.entry("pour", "s"),
            Map.entry("reads", "s"), Map.entry("copy", "spspp"), Map.entry("lay", "t3w"), Map.entry("ask", "tk"),
            Map.entry("item", "tp"), Map.entry("rest", "tv"), Map.entry("tell", "a"), Map.entry("check", "n"),
            Map.entry("count", "9"));
    private static final Due DUE = new Due("ModelTest");

    private final Random lot;
    private final KnitStreets x = new KnitStreets();
    private final Model model = new Model();
    private final List<Method> calls;
    private final int run;
    private final boolean calm;

    private ModelTest(int run, List<Method> calls) {
        this.run = run;
        this.calls = calls;
        lot = new Random(run);
        calm = run % 4 != 0;
    }

    public static void main(String[] args) throws Exception {
        List<Method> calls = new ArrayList<>();
        for (Method m : KnitStreets.class.getDeclaredMethods()) {
            if (Modifier.isPublic(m.getModifiers())) {
                calls.add(m);
            }
        }
        calls.sort(Comparator.comparing(Method::getName));
        DUE.is("calls of the face", calls.size(), 43);
        for (int run = 0; run < RUNS; run++) {
            new ModelTest(run, calls).go();
        }
        DUE.end();
    }

    private void go() throws Exception {
        int made = 0;
        // some runs are near the last night
        for (int i = 0; i < 100 && run % 10 == 9; i++) {
            made += one(calls.get(index("nights")), new int[] {i < 99 ? 100 : 80});
        }
        while (made < CALLS) {
            int kind = lot.nextInt(20);
            if (kind < 2 && made + 10 < CALLS) {
                made += tellText();
            } else if (kind == 2) {
                made += tellRows(made);
            } else if (kind == 3) {
                made += one(calls.get(index("nights")), new int[] {1 + lot.nextInt(100)});
            } else {
                Method m = calls.get(lot.nextInt(calls.size()));
                int[] a = new int[m.getParameterCount()];
                for (int i = 0; i < a.length; i++) {
                    a[i] = argument(m.getName(), i);
                }
                made += one(m, a);
            }
        }
    }

    private int index(String name) {
        for (int i = 0; i < calls.size(); i++) {
            if (calls.get(i).getName().equals(name)) {
                return i;
            }
        }
        throw new IllegalArgumentException(name);
    }

    private int one(Method m, int[] a) throws Exception {
        Object[] boxed = new Object[a.length];
        StringBuilder call = new StringBuilder("run " + run + ": " + m.getName() + "(");
        for (int i = 0; i < a.length; i++) {
            boxed[i] = a[i];
            call.append(i == 0 ? "" : ", ").append(a[i]);
        }
        DUE.is(call + ")", (Integer) m.invoke(x, boxed), model.call(m.getName(), a));
        return 1;
    }

    private int argument(String name, int i) {
        int by = lot.nextInt(40);
        if (by == 0) {
            return ODD[lot.nextInt(ODD.length)];
        }
        if (by == 1) {
            return lot.nextInt();
        }
        char sort = SORTS.get(name).charAt(i);
        switch (sort) {
            case 'c':
                return lot.nextInt(model.call("count", new int[] {0}) + (lot.nextInt(9) == 0 ? 2 : 0) + 1);
            case 'l':
                return lot.nextInt(lot.nextInt(9) == 0 ? 9 : 8);
            case 'k':
                return lot.nextInt(lot.nextInt(9) == 0 ? 7 : 6);
            case 's':
            case 't':
                return lot.nextInt(lot.nextInt(9) == 0 ? 6 : 2);
            case 'p':
                return lot.nextInt(lot.nextInt(9) == 0 ? 27 : 9) - lot.nextInt(2);
            case 'f':
                return lot.nextInt(5) == 0 ? KnitStreets.NONE
                        : lot.nextInt(3) == 0 ? lot.nextInt(300000) - 150000 : lot.nextInt(120) - 10;
            case 'v':
                return lot.nextInt(lot.nextBoolean() ? 10 : 101);
            case 'n':
                return lot.nextInt(lot.nextBoolean() ? 9 : 62);
            case 'w':
                return lot.nextInt(lot.nextInt(9) == 0 ? 3 : 2);
            case 'd':
                return 1 + lot.nextInt(calm ? 3 : 12);
            case 'b':
                return 0x20202020;
            case 'a':
                return lot.nextInt();
            default:
                return lot.nextInt(sort - '0' + 1);
        }
    }

    private int tellText() throws Exception {
        String text = text();
        int made = one(calls.get(index("trim")), new int[] {0});
        for (int at = 0; at < text.length(); at += 12) {
            int[] a = new int[3];
            for (int i = 0; i < 12; i++) {
                a[i / 4] = a[i / 4] << 8 | (at + i < text.length() ? text.charAt(at + i) : 32);
            }
            made += one(calls.get(index("feed")), a);
        }
        if (lot.nextInt(4) > 0) {
            made += one(calls.get(index("trim")), new int[] {text.length()});
        }
        return made + one(calls.get(index("text")), new int[0]);
    }

    private String text() {
        String[] names = {"gwn", "rm", "gw"};
        int key = lot.nextInt(3);
        StringBuilder text = new StringBuilder(new String[] {"wear", "fee", "fine"}[key]).append(' ');
        piece(text, names[key], lot.nextInt(4), 0);
        int faults = lot.nextInt(3) == 0 ? 1 + lot.nextInt(2) : 0;
        for (int i = 0; i < faults; i++) {
            int at = lot.nextInt(text.length() + 1);
            String signs = "()!!<=>+-*/&|  0123456789gwnrmax\t\u00e9\0Z";
            char sign = signs.charAt(lot.nextInt(signs.length()));
            if (lot.nextBoolean() || at == text.length()) {
                text.insert(at, sign);
            } else if (lot.nextBoolean()) {
                text.setCharAt(at, sign);
            } else {
                text.deleteCharAt(at);
            }
        }
        return text.length() > 96 ? text.substring(0, 96) : text.toString();
    }

    private void piece(StringBuilder text, String names, int depth, int within) {
        int kind = lot.nextInt(depth > 0 ? 8 : 3);
        blank(text);
        if (kind == 0) {
            text.append(lot.nextInt(lot.nextBoolean() ? 10 : 10000));
        } else if (kind <= 2) {
            text.append(names.charAt(lot.nextInt(names.length())));
        } else if (kind == 3) {
            text.append("!".repeat(1 + lot.nextInt(within == 0 ? 9 : 3)));
            piece(text, names, depth - 1, within + 1);
        } else if (kind == 4) {
            int open = 1 + lot.nextInt(within == 0 ? 9 : 2);
            text.append("(".repeat(open));
            piece(text, names, depth - 1, within + 1);
            text.append(")".repeat(open));
        } else {
            piece(text, names, depth - 1, within);
            blank(text);
            text.append("+-*/<=>&|+-*/".charAt(lot.nextInt(13)));
            piece(text, names, depth - 1, within);
        }
        blank(text);
    }

    private void blank(StringBuilder text) {
        if (lot.nextInt(9) == 0) {
            text.append(" ".repeat(1 + lot.nextInt(2)));
        }
    }

    /** Tells the nights of an image kept now, rightly or nearly so, and has them checked. */
    private int tellRows(int made) throws Exception {
        int n = 1 + lot.nextInt(8), wrong = lot.nextInt(3 * n), all = 2 * n + (lot.nextInt(5) == 0 ? 1 : 0);
        if (made + all + 2 + 3 * n + 2 > CALLS) {
            return one(calls.get(index("keep")), new int[0]);
        }
        int start = one(calls.get(index("check")), new int[] {1}) + one(calls.get(index("keep")), new int[0]);
        List<Integer> told = new ArrayList<>();
        for (int i = 0; i < n; i++) {
            start += one(calls.get(index("nights")), new int[] {1});
            told.add(model.call("town", new int[] {1}));
            told.add(model.call("town", new int[] {4}));
        }
        start += one(calls.get(index("back")), new int[0]);
        for (int i = 0; i < all; i++) {
            int v = i < told.size() ? told.get(i) : 0;
            start += one(calls.get(index("tell")), new int[] {i == wrong ? v + 1 : v});
        }
        return start + one(calls.get(index("check")), new int[] {n + (lot.nextInt(9) == 0 ? 1 : 0)});
    }
}
