import java.util.ArrayDeque;
import java.util.ArrayList;
import java.util.Deque;
import java.util.HashSet;
import java.util.List;
import java.util.Set;

/**
 * The document once more, as plainly as can be and in other ways than the class has: loops one by one, sets by
 * recursion, faults by what may come next, texts worked out from their words. ModelTest holds it against the class.
 */
final class Model {
    static final int BAD = -1000000001, NO = -1000000002, FULL = -1000000003, NONE = -1000000005,
            NOTHING = -1000000011, KIND = -1000000012, INDEX = -1000000013, SIZE = -1000000014;

    enum Kind {
        PLAIN(null), RIB(PLAIN), LACE(PLAIN), CABLE(RIB), MOSS(LACE), DARN(PLAIN);

        final Kind above;

        Kind(Kind above) {
            this.above = above;
        }

        boolean is(Kind other) {
            return this == other || above != null && above.is(other);
        }

        int[] hangs(int c) {
            switch (this) {
                case PLAIN:
                    return new int[] {c};
                case CABLE:
                    return new int[] {c % 2 == 0 ? c + 1 : c - 1};
                case LACE:
                    return new int[] {c, c == 7 ? 0 : c + 1};
                case DARN:
                    return new int[0];
                default:
                    return above.hangs(c);
            }
        }

        int wears(int plain) {
            switch (this) {
                case PLAIN:
                    return plain;
                case RIB:
                    return Math.max(above.wears(plain) - 2, 0);
                case LACE:
                    return above.wears(plain) * 2;
                case MOSS:
                    return Math.max(above.wears(plain) - 3, 0);
                case DARN:
                    return 1;
                default:
                    return above.wears(plain);
            }
        }

        int bears(int gauge) {
            switch (this) {
                case PLAIN:
                    return 10 * gauge;
                case CABLE:
                    return above.bears(gauge) + 5;
                case MOSS:
                    return above.bears(gauge) * 2;
                default:
                    return above.bears(gauge);
            }
        }

        int worth(int gauge) {
            switch (this) {
                case PLAIN:
                    return gauge;
                case RIB:
                    return above.worth(gauge) + 4;
                case CABLE:
                    return above.worth(gauge) * 2;
                case LACE:
                    return 50 - gauge;
                case MOSS:
                    return above.worth(gauge) - 6;
                default:
                    return 7;
            }
        }
    }

    static final class Course {
        Kind kind;
        int gauge;
        int wear;
        final boolean[] lost = new boolean[8];

        Course(Kind kind, int gauge) {
            this.kind = kind;
            this.gauge = gauge;
        }

        Course again() {
            Course c = new Course(kind, gauge);
            c.wear = wear;
            System.arraycopy(lost, 0, c.lost, 0, 8);
            return c;
        }
    }

    record Text(int key, List<String> words) {
        long leaves() {
            return words.stream().filter(w -> Character.isLetterOrDigit(w.charAt(0))).count();
        }
    }

    static final class Town {
        final List<Course> courses = new ArrayList<>();
        final List<Text> texts = new ArrayList<>();
        final int[] rules = {30, 20, 20};
        int walked, runs, mended, night, z = 1;

        Town again() {
            Town t = new Town();
            for (Course c : courses) {
                t.courses.add(c.again());
            }
            t.texts.addAll(texts);
            System.arraycopy(rules, 0, t.rules, 0, 3);
            t.walked = walked;
            t.runs = runs;
            t.mended = mended;
            t.night = night;
            t.z = z;
            return t;
        }

        boolean holds(int course, int loop) {
            if (courses.get(course).lost[loop]) {
                return false;
            }
            if (course > 0) {
                for (int below : courses.get(course).kind.hangs(loop)) {
                    if (!holds(course - 1, below)) {
                        return false;
                    }
                }
            }
            return true;
        }

        int holding(int course) {
            int set = 0;
            for (int loop = 0; loop < 8; loop++) {
                set += holds(course, loop) ? 1 << loop : 0;
            }
            return set;
        }

        int held() {
            int many = 0;
            for (int c = 0; c < courses.size(); c++) {
                many += Integer.bitCount(holding(c));
            }
            return many;
        }

        int lostLoops() {
            int many = 0;
            for (Course c : courses) {
                for (boolean l : c.lost) {
                    many += l ? 1 : 0;
                }
            }
            return many;
        }

        int counting(int key) {
            for (int t = texts.size() - 1; t >= 0; t--) {
                if (texts.get(t).key() == key) {
                    return t;
                }
            }
            return -1;
        }

        int gives(int key, Course c, int untold) {
            int text = counting(key);
            return text < 0 ? untold : new Sums(texts.get(text).words(), this, c).result();
        }

        int wears(Course c) {
            return c.kind.wears(Math.max(0, Math.min(99, gives(0, c, 6))));
        }

        int draw() {
            z = z * 1103515245 + 12345;
            return z >>> 8;
        }

        void lose(Course c, int loop) {
            runs += c.lost[loop] ? 0 : 1;
            c.lost[loop] = true;
        }

        void pass() {
            if (draw() % 100 < rules[0]) {
                Kind kind = Kind.values()[draw() % 6];
                int gauge = 1 + draw() % 9;
                if (courses.size() < 12) {
                    courses.add(new Course(kind, gauge));
                }
            }
            for (int i = 0; i < 3; i++) {
                if (!courses.isEmpty()) {
                    Course c = courses.get(draw() % courses.size());
                    int loop = draw() % 8;
                    walked++;
                    c.wear = Math.min(c.wear + wears(c), 99);
                    if (c.wear > c.kind.bears(c.gauge)) {
                        c.wear = 0;
                        lose(c, loop);
                    }
                }
            }
            if (draw() % 100 < rules[1] && !courses.isEmpty()) {
                Course c = courses.get(draw() % courses.size());
                lose(c, draw() % 8);
            }
            if (draw() % 100 < rules[2]) {
                mend();
            }
            night++;
        }

        void mend() {
            for (Course c : courses) {
                for (int loop = 0; loop < 8; loop++) {
                    if (c.lost[loop]) {
                        c.lost[loop] = false;
                        mended++;
                        return;
                    }
                }
            }
        }

        Town after(int n) {
            Town t = again();
            for (int i = 0; i < n; i++) {
                t.pass();
            }
            return t;
        }

        List<Integer> steps(int at) {
            int course = at / 8, loop = at % 8;
            List<Integer> to = new ArrayList<>();
            for (int other = 0; other < 8 * courses.size(); other++) {
                int c = other / 8, l = other % 8;
                boolean near = c == course && Math.abs(l - loop) == 1
                        || c == course - 1 && hangsOn(course, loop, l) || c == course + 1 && hangsOn(c, l, loop);
                if (near && holds(c, l)) {
                    to.add(other);
                }
            }
            return to;
        }

        boolean hangsOn(int course, int loop, int below) {
            for (int l : courses.get(course).kind.hangs(loop)) {
                if (l == below) {
                    return true;
                }
            }
            return false;
        }

        /** By loop: how far it is, -1 for none. */
        int[] far(int course, int loop) {
            int[] far = new int[8 * courses.size()];
            java.util.Arrays.fill(far, -1);
            if (!holds(course, loop)) {
                return far;
            }
            Deque<Integer> open = new ArrayDeque<>();
            far[8 * course + loop] = 0;
            open.add(8 * course + loop);
            while (!open.isEmpty()) {
                int at = open.remove();
                for (int to : steps(at)) {
                    if (far[to] < 0) {
                        far[to] = far[at] + 1;
                        open.add(to);
                    }
                }
            }
            return far;
        }

        int pulled(int course, int loop) {
            if (courses.get(course).lost[loop]) {
                return 0;
            }
            Town t = again();
            t.courses.get(course).lost[loop] = true;
            return held() - t.held();
        }

        void chain(int course, int loop, Set<Integer> seen) {
            seen.add(8 * course + loop);
            if (course > 0) {
                for (int below : courses.get(course).kind.hangs(loop)) {
                    chain(course - 1, below, seen);
                }
            }
        }
    }

    /** Works out a row of words by two stacks. */
    static final class Sums {
        private final List<String> words;
        private final Town town;
        private final Course course;
        private final Deque<Integer> numbers = new ArrayDeque<>();
        private final Deque<String> signs = new ArrayDeque<>();

        Sums(List<String> words, Town town, Course course) {
            this.words = words;
            this.town = town;
            this.course = course;
        }

        static int rank(String sign) {
            return "(".equals(sign) ? 0 : "!".equals(sign) ? 6 : "|".equals(sign) ? 1 : "&".equals(sign) ? 2
                    : "<=>".contains(sign) ? 3 : "+-".contains(sign) ? 4 : 5;
        }

        int result() {
            for (String w : words) {
                char first = w.charAt(0);
                if (Character.isDigit(first)) {
                    numbers.push(Integer.parseInt(w));
                } else if (Character.isLetter(first)) {
                    numbers.push(name(first));
                } else if (w.equals("(") || w.equals("!")) {
                    signs.push(w);
                } else if (w.equals(")")) {
                    settle(1);
                    signs.pop();
                } else {
                    settle(rank(w));
                    signs.push(w);
                }
            }
            settle(1);
            return numbers.pop();
        }

        private int name(char letter) {
            switch (letter) {
                case 'g':
                    return course.gauge;
                case 'w':
                    return course.wear;
                case 'n':
                    return town.night;
                case 'r':
                    return town.runs;
                default:
                    return town.mended;
            }
        }

        private void settle(int rank) {
            while (!signs.isEmpty() && rank(signs.peek()) >= rank) {
                String sign = signs.pop();
                int b = numbers.pop();
                if (sign.equals("!")) {
                    numbers.push(b == 0 ? 1 : 0);
                } else {
                    numbers.push(join(sign.charAt(0), numbers.pop(), b));
                }
            }
        }

        private static int join(char sign, int a, int b) {
            switch (sign) {
                case '|':
                    return a != 0 | b != 0 ? 1 : 0;
                case '&':
                    return a != 0 & b != 0 ? 1 : 0;
                case '<':
                    return a < b ? 1 : 0;
                case '=':
                    return a == b ? 1 : 0;
                case '>':
                    return a > b ? 1 : 0;
                case '+':
                    return (int) ((long) a + b);
                case '-':
                    return (int) ((long) a - b);
                case '*':
                    return (int) ((long) a * b);
                default:
                    return b == 0 ? 0 : (int) ((long) a / b);
            }
        }
    }

    /** Goes through a tape word by word and knows at each what may come next, without a grammar's levels. */
    static final class Faults {
        private static final String[] KEYS = {"wear", "fee", "fine"};
        private static final String[] NAMES = {"gwn", "rm", "gw"};
        final List<String> words = new ArrayList<>();
        int key = -1;
        private boolean wantsPiece = true;
        /** Behind each ( that is open, the lowest first: was there a < = > in the TEST around it; ! open around it. */
        private final Deque<boolean[]> tests = new ArrayDeque<>();
        private final Deque<Integer> nots = new ArrayDeque<>();
        private boolean tested;
        private int notsOpen;

        /** The place of the fault, or -1. */
        int fault(String tape) {
            int at = 0;
            boolean behindWord = false;
            while (true) {
                int start = at;
                while (at < tape.length() && tape.charAt(at) == ' ') {
                    at++;
                }
                if (at == tape.length()) {
                    return key >= 0 && !wantsPiece && tests.isEmpty() ? -1 : at;
                }
                String word = wordAt(tape, at);
                boolean isWord = word.matches("[a-z]+|[0-9]+");
                if (isWord && behindWord && start == at || !goesOn(word)) {
                    return at;
                }
                behindWord = isWord;
                at += word.length();
            }
        }

        private static String wordAt(String tape, int at) {
            String rest = tape.substring(at);
            String letters = rest.replaceAll("(?s)[^a-z].*", ""), digits = rest.replaceAll("(?s)[^0-9].*", "");
            return !letters.isEmpty() ? letters : !digits.isEmpty() ? digits : rest.substring(0, 1);
        }

        private boolean goesOn(String word) {
            if (key < 0) {
                key = java.util.Arrays.asList(KEYS).indexOf(word);
                return key >= 0;
            }
            words.add(word);
            return wantsPiece ? piece(word) : behindPiece(word);
        }

        private boolean piece(String word) {
            if (word.equals("!")) {
                notsOpen++;
                return notsOpen <= 8;
            }
            if (word.equals("(")) {
                tests.push(new boolean[] {tested});
                nots.push(notsOpen);
                tested = false;
                return tests.size() <= 8;
            }
            wantsPiece = false;
            notsOpen = nots.isEmpty() ? 0 : nots.peek();
            return word.matches("[0-9]{1,4}") || word.length() == 1 && NAMES[key].contains(word);
        }

        private boolean behindPiece(String word) {
            if (word.equals(")")) {
                if (tests.isEmpty()) {
                    return false;
                }
                tested = tests.pop()[0];
                nots.pop();
                notsOpen = nots.isEmpty() ? 0 : nots.peek();
                return true;
            }
            wantsPiece = true;
            if ("|&".contains(word)) {
                tested = false;
                return true;
            }
            if ("<=>".contains(word)) {
                boolean first = !tested;
                tested = true;
                return first;
            }
            return "+-*/".contains(word);
        }
    }

    static final class Sheet {
        boolean floats;
        Integer[] places;

        Sheet again() {
            Sheet s = new Sheet();
            s.floats = floats;
            s.places = places.clone();
            return s;
        }
    }

    private Town now = new Town();
    private Town image;
    private final Sheet[] sheets = new Sheet[4];
    /** null, a Course, a Sheet or an Integer. */
    private final Object[] slots = new Object[5];
    private final List<Integer> waiting = new ArrayList<>();
    private String tape = "";

    private boolean no(int course) {
        return course < 0 || course >= now.courses.size();
    }

    private boolean no(int course, int loop) {
        return no(course) || loop < 0 || loop > 7;
    }

    private static boolean out(int v, int least, int most) {
        return v < least || v > most;
    }

    int call(String name, int[] a) {
        switch (name) {
            case "knit":
                return out(a[0], 0, 5) || out(a[1], 1, 9) ? BAD : now.courses.size() == 12 ? FULL
                        : add(new Course(Kind.values()[a[0]], a[1]));
            case "told":
                return told(a[0], a[1]);
            case "as":
                return no(a[0]) || out(a[1], 0, 5) ? BAD
                        : now.courses.get(a[0]).kind.is(Kind.values()[a[1]]) ? now.courses.get(a[0]).wear : KIND;
            case "turns":
                return turns(a[0], a[1]);
            case "set":
                return set(a[0], a[1], a[2]);
            case "drops":
                return change(a[0], a[1], true);
            case "hooks":
                return change(a[0], a[1], false);
            case "rule":
                return rule(a[0], a[1]);
            case "deal":
                return deal(a[0]);
            case "seed":
                int was = now.z;
                now.z = a[0];
                return was;
            case "nights":
                return nights(a[0]);
            case "town":
                return out(a[0], 0, 4) ? BAD : town(now, a[0]);
            default:
                return look(name, a);
        }
    }

    private static int town(Town t, int what) {
        return new int[] {t.walked, t.runs, t.mended, t.held(), t.lostLoops()}[what];
    }

    private int add(Course c) {
        now.courses.add(c);
        return now.courses.size() - 1;
    }

    private int told(int course, int what) {
        if (no(course) || out(what, 0, 7)) {
            return BAD;
        }
        Course c = now.courses.get(course);
        int lost = 0;
        for (int l = 0; l < 8; l++) {
            lost |= c.lost[l] ? 1 << l : 0;
        }
        return new int[] {c.kind.ordinal(), c.gauge, c.wear, lost, now.holding(course), now.wears(c),
            c.kind.bears(c.gauge), c.kind.worth(c.gauge)}[what];
    }

    private int turns(int course, int kind) {
        if (no(course) || out(kind, 0, 5)) {
            return BAD;
        }
        int was = now.courses.get(course).kind.ordinal();
        now.courses.get(course).kind = Kind.values()[kind];
        return was;
    }

    private int set(int course, int what, int v) {
        if (no(course) || out(what, 1, 2) || what == 1 && out(v, 1, 9) || what == 2 && out(v, 0, 99)) {
            return BAD;
        }
        Course c = now.courses.get(course);
        int was = what == 1 ? c.gauge : c.wear;
        if (what == 1) {
            c.gauge = v;
        } else {
            c.wear = v;
        }
        return was;
    }

    private int change(int course, int loop, boolean lost) {
        if (no(course, loop)) {
            return BAD;
        }
        if (now.courses.get(course).lost[loop] == lost) {
            return NO;
        }
        int held = now.held();
        now.courses.get(course).lost[loop] = lost;
        return Math.abs(held - now.held());
    }

    private int rule(int what, int v) {
        if (out(what, 0, 2) || out(v, 0, 100)) {
            return BAD;
        }
        int was = now.rules[what];
        now.rules[what] = v;
        return was;
    }

    private int deal(int n) {
        if (out(n, 1, 12)) {
            return BAD;
        }
        int came = Math.min(n, 12 - now.courses.size());
        for (int i = 0; i < came; i++) {
            Course c = new Course(Kind.values()[now.draw() % 6], 1 + now.draw() % 9);
            int one = now.draw(), other = now.draw();
            for (int l = 0; l < 8; l++) {
                c.lost[l] = (one >> l & 1) == 1 && (other >> l & 1) == 1;
            }
            now.courses.add(c);
        }
        return came;
    }

    private int nights(int n) {
        if (out(n, 1, 100)) {
            return BAD;
        }
        int was = now.runs;
        now = now.after(Math.min(n, 9999 - now.night));
        return now.runs - was;
    }

    private int look(String name, int[] a) {
        switch (name) {
            case "way":
                return no(a[0], a[1]) || no(a[2], a[3]) ? BAD
                        : now.far(a[0], a[1])[8 * a[2] + a[3]] < 0 ? NONE : now.far(a[0], a[1])[8 * a[2] + a[3]];
            case "reach":
                return no(a[0], a[1]) ? BAD
                        : (int) java.util.Arrays.stream(now.far(a[0], a[1])).filter(f -> f >= 0).count();
            case "pulled":
                return no(a[0], a[1]) ? BAD : now.pulled(a[0], a[1]);
            case "worst":
                return worst(a[0]);
            case "needs":
                return needs(a[0], a[1]);
            case "behind":
                return behind(a[0], a[1]);
            case "gone":
                return gone(a[0], a[1]);
            case "thick":
                return best(a[0], a[1], a[2], true);
            case "becomes":
                return best(a[0], a[1], a[2], false);
            case "like":
                return like(a[0], a[1]);
            case "fee":
                return now.gives(1, null, now.runs);
            case "fine":
                return no(a[0]) ? BAD : now.gives(2, now.courses.get(a[0]), now.courses.get(a[0]).wear);
            default:
                return tell(name, a);
        }
    }

    private int worst(int what) {
        if (out(what, 0, 2)) {
            return BAD;
        }
        int[] worst = {NONE, NONE, NONE};
        for (int at = 8 * now.courses.size() - 1; at >= 0; at--) {
            int pulled = now.pulled(at / 8, at % 8);
            if (pulled >= worst[2]) {
                worst = new int[] {at / 8, at % 8, pulled};
            }
        }
        return worst[what];
    }

    private int needs(int course, int loop) {
        if (no(course, loop)) {
            return BAD;
        }
        Set<Integer> seen = new HashSet<>();
        now.chain(course, loop, seen);
        return (int) seen.stream().filter(at -> now.courses.get(at / 8).lost[at % 8]).count();
    }

    private int behind(int n, int what) {
        if (out(n, 0, 100) || out(what, 0, 3 + now.courses.size())) {
            return BAD;
        }
        Town t = now.after(n);
        return what < 4 ? town(t, what) : t.holding(what - 4);
    }

    private int gone(int course, int loop) {
        if (no(course, loop)) {
            return BAD;
        }
        Town t = now;
        for (int n = 0; n <= 200; n++) {
            if (!t.holds(course, loop)) {
                return n;
            }
            t = t.after(1);
        }
        return NONE;
    }

    private int best(int course, int n, int what, boolean gauges) {
        if (no(course) || out(n, 1, 60) || out(what, 0, 1)) {
            return BAD;
        }
        int best = -1, most = -1;
        for (int v = gauges ? 1 : 0; v <= (gauges ? 9 : 5); v++) {
            Town t = now.again();
            if (gauges) {
                t.courses.get(course).gauge = v;
            } else {
                t.courses.get(course).kind = Kind.values()[v];
            }
            int held = t.after(n).held();
            if (held > most) {
                most = held;
                best = v;
            }
        }
        return what == 0 ? best : most;
    }

    private int like(int sheet, int what) {
        if (out(sheet, 0, 3) || out(what, 0, 1)) {
            return BAD;
        }
        if (sheets[sheet] == null) {
            return NOTHING;
        }
        int best = NONE;
        long least = Long.MAX_VALUE;
        for (int c = 0; c < now.courses.size(); c++) {
            long apart = 0;
            for (int k = 0; k < sheets[sheet].places.length; k++) {
                Integer place = sheets[sheet].places[k];
                apart += place == null ? 0 : Math.abs(now.after(k).courses.get(c).wear - place);
            }
            if (apart < least) {
                least = apart;
                best = c;
            }
        }
        return best == NONE ? NONE : what == 0 ? best : (int) least;
    }

    private int tell(String name, int[] a) {
        switch (name) {
            case "feed":
                return feed(a);
            case "trim":
                tape = out(a[0], 0, tape.length()) ? tape : tape.substring(0, a[0]);
                return tape.length() == a[0] ? a[0] : BAD;
            case "text":
                return text();
            case "textTold":
                return out(a[0], 0, now.texts.size() - 1) || out(a[1], 0, 1) ? BAD
                        : a[1] == 0 ? now.texts.get(a[0]).key() : (int) now.texts.get(a[0]).leaves();
            case "why":
                return out(a[0], 0, 2) ? BAD : now.counting(a[0]) < 0 ? NONE : now.counting(a[0]);
            case "tell":
                if (waiting.size() == 60) {
                    return FULL;
                }
                waiting.add(a[0]);
                return waiting.size();
            case "check":
                int answer = check(a[0]);
                waiting.clear();
                return answer;
            case "keep":
                image = now.again();
                return now.courses.size();
            case "back":
                if (image == null) {
                    return NO;
                }
                now = image.again();
                return now.courses.size();
            case "count":
                return out(a[0], 0, 8) ? BAD : new int[] {now.courses.size(), now.night, now.rules[0], now.rules[1],
                    now.rules[2], now.texts.size(), waiting.size(), tape.length(), now.z}[a[0]];
            default:
                return rows(name, a);
        }
    }

    private int feed(int[] a) {
        if (tape.length() > 84) {
            return FULL;
        }
        for (int four : a) {
            for (int i = 3; i >= 0; i--) {
                tape += (char) ((four >>> 8 * i) % 256 & 255);
            }
        }
        return tape.length();
    }

    private int text() {
        Faults f = new Faults();
        int fault = f.fault(tape);
        tape = "";
        if (fault >= 0) {
            return -100 - fault;
        }
        if (now.texts.size() == 14) {
            return FULL;
        }
        now.texts.add(new Text(f.key, f.words));
        return now.texts.size() - 1;
    }

    private int check(int n) {
        if (out(n, 1, 30)) {
            return BAD;
        }
        if (image == null) {
            return NO;
        }
        List<Integer> due = new ArrayList<>();
        for (int i = 1; i <= Math.min(n, 9999 - image.night); i++) {
            due.add(image.after(i).runs);
            due.add(image.after(i).lostLoops());
        }
        if (due.equals(waiting)) {
            return 0;
        }
        int right = 0;
        while (right < due.size() && right < waiting.size() && due.get(right).equals(waiting.get(right))) {
            right++;
        }
        return 1 + right;
    }

    private int rows(String name, int[] a) {
        switch (name) {
            case "sheet":
                return sheet(a[0], a[1], a[2]);
            case "mark":
                return mark(a[0], a[1], a[2]);
            case "pour":
                return out(a[0], 0, 3) ? BAD : sheets[a[0]] == null ? NOTHING : pour(sheets[a[0]].places);
            case "reads":
                return out(a[0], 0, 3) ? BAD : sheets[a[0]] == null ? NOTHING : reads(sheets[a[0]].places);
            case "copy":
                return copy(a[0], a[1], a[2], a[3], a[4]);
            case "lay":
                return lay(a[0], a[1], a[2]);
            case "ask":
                return out(a[0], 0, 4) || out(a[1], 0, 5) ? BAD : slots[a[0]] == null ? NOTHING
                        : slots[a[0]] instanceof Course c && c.kind.is(Kind.values()[a[1]]) ? c.kind.worth(c.gauge)
                        : KIND;
            case "item":
                return out(a[0], 0, 4) ? BAD : slots[a[0]] == null ? NOTHING
                        : !(slots[a[0]] instanceof Sheet s) ? KIND : out(a[1], 0, s.places.length - 1) ? INDEX
                        : s.places[a[1]] == null ? KIND : s.places[a[1]];
            case "rest":
                return out(a[0], 0, 4) ? BAD : slots[a[0]] == null ? NOTHING
                        : !(slots[a[0]] instanceof Integer i) ? KIND : a[1] == 0 ? NO : (int) ((long) i % a[1]);
            default:
                throw new IllegalArgumentException(name);
        }
    }

    private int sheet(int sheet, int sort, int n) {
        if (out(sheet, 0, 3) || out(sort, -1, 1) || sort >= 0 && n > 24) {
            return BAD;
        }
        if (sort >= 0 && n < 0) {
            return SIZE;
        }
        sheets[sheet] = null;
        if (sort < 0) {
            return 0;
        }
        sheets[sheet] = new Sheet();
        sheets[sheet].floats = sort == 1;
        sheets[sheet].places = new Integer[n];
        java.util.Arrays.fill(sheets[sheet].places, 0);
        return n;
    }

    private int mark(int sheet, int place, int v) {
        if (out(sheet, 0, 3)) {
            return BAD;
        }
        Sheet s = sheets[sheet];
        if (s == null) {
            return NOTHING;
        }
        if (out(place, 0, s.places.length - 1)) {
            return INDEX;
        }
        if (s.floats && v != NONE && Math.abs((long) v) > 99999) {
            return BAD;
        }
        if (!s.floats && v == NONE) {
            return KIND;
        }
        s.places[place] = v == NONE ? null : s.floats ? v : Integer.valueOf((short) v);
        return 1;
    }

    private int pour(Integer[] places) {
        int otherwise = 0;
        for (int c = 0; c < now.courses.size() && c < places.length; c++) {
            Course course = now.courses.get(c);
            int was = course.wear;
            course.wear = places[c] == null ? was : Math.min(99, Math.max(0, places[c]));
            otherwise += was == course.wear ? 0 : 1;
        }
        return otherwise;
    }

    private int reads(Integer[] places) {
        for (int p = 0; p < places.length; p++) {
            if (places[p] != null && (no(p) || places[p] != now.courses.get(p).gauge)) {
                return p;
            }
        }
        return NONE;
    }

    private int copy(int from, int place, int to, int at, int many) {
        if (out(from, 0, 3) || out(to, 0, 3)) {
            return BAD;
        }
        if (sheets[from] == null || sheets[to] == null) {
            return NOTHING;
        }
        if (sheets[from].floats != sheets[to].floats) {
            return KIND;
        }
        Integer[] source = sheets[from].places.clone(), target = sheets[to].places;
        if (place < 0 || at < 0 || many < 0 || (long) place + many > source.length || (long) at + many > target.length) {
            return INDEX;
        }
        for (int i = 0; i < many; i++) {
            target[at + i] = source[place + i];
        }
        return many;
    }

    private int lay(int slot, int thing, int k) {
        if (out(slot, 0, 4) || out(thing, 0, 3) || thing == 1 && no(k) || thing == 2 && out(k, 0, 3)) {
            return BAD;
        }
        if (thing == 2 && sheets[k] == null) {
            return NOTHING;
        }
        Object held = slots[slot];
        slots[slot] = thing == 0 ? null : thing == 1 ? now.courses.get(k).again()
                : thing == 2 ? sheets[k].again() : Integer.valueOf(k);
        return held == null ? 0 : held instanceof Course ? 1 : held instanceof Sheet ? 2 : 3;
    }
}
