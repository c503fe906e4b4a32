/**
 * The streets of a town, knitted by night, course upon course. What each call answers is promised in DOC.md; words
 * in capitals are that document's.
 *
 * <p>All rows are made by the constructor and used again: no call makes an object or an array.
 */
public final class KnitStreets {
    public static final int BAD = -1000000001, NO = -1000000002, FULL = -1000000003, NONE = -1000000005,
            NOTHING = -1000000011, KIND = -1000000012, INDEX = -1000000013, SIZE = -1000000014;

    private static final int MOST_COURSES = 12, LOOPS = 8, ALL_LOOPS = 255, MOST_GAUGE = 9, MOST_WEAR = 99;
    private static final int MOST_NIGHT = 9999, MOST_DEALT = 12, MOST_NIGHTS = 100;
    private static final int MOST_BEHIND = 100, MOST_GONE = 200, MOST_PLANNED = 60;
    private static final int MOST_TEXTS = 14, MOST_BYTES = 96, FED_BYTES = 12, FAULT = -100;
    private static final int SHEETS = 4, SLOTS = 5, MOST_WAITING = 60, MOST_CHECKED = 30;

    private final Texts texts;
    private final Town now;
    private final Town image;
    /** Where what is only thought happens; each call that thinks copies a town into it first. */
    private final Town thought;
    private final Ways ways;
    private final Tape tape;
    private final Reader reader;
    private final Sheet[] sheets;
    private final Slot[] slots;
    private final int[] waiting;
    private int waits;
    private boolean imageKept;

    public KnitStreets() {
        texts = new Texts();
        now = new Town(texts);
        image = new Town(texts);
        thought = new Town(texts);
        ways = new Ways();
        tape = new Tape();
        reader = new Reader(tape);
        sheets = new Sheet[SHEETS];
        for (int i = 0; i < SHEETS; i++) {
            sheets[i] = new Sheet();
        }
        slots = new Slot[SLOTS];
        for (int i = 0; i < SLOTS; i++) {
            slots[i] = new Slot();
        }
        waiting = new int[MOST_WAITING];
    }

    // ---- courses, loops

    public int knit(int kind, int gauge) {
        if (!Kinds.isKind(kind) || !isGauge(gauge)) {
            return BAD;
        }
        if (now.isFull()) {
            return FULL;
        }
        now.add(kind, gauge, 0);
        return now.courses - 1;
    }

    public int told(int course, int what) {
        if (!now.has(course)) {
            return BAD;
        }
        switch (what) {
            case 0:
                return now.kind[course];
            case 1:
                return now.gauge[course];
            case 2:
                return now.wear[course];
            case 3:
                return now.lost[course];
            case 4:
                return now.holding(course);
            case 5:
                return now.wears(course);
            case 6:
                return Kinds.bears(now.kind[course], now.gauge[course]);
            case 7:
                return Kinds.worth(now.kind[course], now.gauge[course]);
            default:
                return BAD;
        }
    }

    public int as(int course, int kind) {
        if (!now.has(course) || !Kinds.isKind(kind)) {
            return BAD;
        }
        return Kinds.isUnder(now.kind[course], kind) ? now.wear[course] : KIND;
    }

    public int turns(int course, int kind) {
        if (!now.has(course) || !Kinds.isKind(kind)) {
            return BAD;
        }
        int was = now.kind[course];
        now.kind[course] = kind;
        return was;
    }

    public int set(int course, int what, int v) {
        if (!now.has(course)) {
            return BAD;
        }
        if (what == 1 && isGauge(v)) {
            int was = now.gauge[course];
            now.gauge[course] = v;
            return was;
        }
        if (what == 2 && v >= 0 && v <= MOST_WEAR) {
            int was = now.wear[course];
            now.wear[course] = v;
            return was;
        }
        return BAD;
    }

    public int drops(int course, int loop) {
        if (!isLoop(course, loop)) {
            return BAD;
        }
        int bit = 1 << loop;
        if ((now.lost[course] & bit) != 0) {
            return NO;
        }
        int held = now.held();
        now.lost[course] |= bit;
        return held - now.held();
    }

    public int hooks(int course, int loop) {
        if (!isLoop(course, loop)) {
            return BAD;
        }
        int bit = 1 << loop;
        if ((now.lost[course] & bit) == 0) {
            return NO;
        }
        int held = now.held();
        now.lost[course] &= ~bit;
        return now.held() - held;
    }

    public int rule(int what, int v) {
        if (what < 0 || what >= now.rules.length || v < 0 || v > 100) {
            return BAD;
        }
        int was = now.rules[what];
        now.rules[what] = v;
        return was;
    }

    public int deal(int n) {
        if (n < 1 || n > MOST_DEALT) {
            return BAD;
        }
        int came = 0;
        for (int i = 0; i < n && !now.isFull(); i++) {
            now.drawCourse();
            came++;
        }
        return came;
    }

    public int seed(int v) {
        int was = now.z;
        now.z = v;
        return was;
    }

    // ---- nights

    public int nights(int n) {
        if (n < 1 || n > MOST_NIGHTS) {
            return BAD;
        }
        int before = now.runs;
        for (int i = 0; i < n && now.night < MOST_NIGHT; i++) {
            now.passNight();
        }
        return now.runs - before;
    }

    public int town(int what) {
        switch (what) {
            case 0:
                return now.walked;
            case 1:
                return now.runs;
            case 2:
                return now.mended;
            case 3:
                return now.held();
            case 4:
                return now.lostLoops();
            default:
                return BAD;
        }
    }

    // ---- ways, chains

    public int way(int course, int loop, int to, int there) {
        if (!isLoop(course, loop) || !isLoop(to, there)) {
            return BAD;
        }
        return ways.steps(now, course, loop, to, there);
    }

    public int reach(int course, int loop) {
        return isLoop(course, loop) ? ways.reached(now, course, loop) : BAD;
    }

    public int pulled(int course, int loop) {
        return isLoop(course, loop) ? now.held() - now.heldWithout(course, 1 << loop) : BAD;
    }

    public int worst(int what) {
        if (what < 0 || what > 2) {
            return BAD;
        }
        if (now.courses == 0) {
            return NONE;
        }
        int held = now.held();
        int worstCourse = 0, worstLoop = 0, most = -1;
        for (int course = 0; course < now.courses; course++) {
            for (int loop = 0; loop < LOOPS; loop++) {
                int pulls = held - now.heldWithout(course, 1 << loop);
                if (pulls > most) {
                    most = pulls;
                    worstCourse = course;
                    worstLoop = loop;
                }
            }
        }
        return what == 0 ? worstCourse : what == 1 ? worstLoop : most;
    }

    public int needs(int course, int loop) {
        return isLoop(course, loop) ? now.lostBelow(course, loop) : BAD;
    }

    // ---- what will be

    public int behind(int n, int what) {
        // COURSES that come in these NIGHTS are only thought: none of them can be named
        if (n < 0 || n > MOST_BEHIND || what < 0 || what >= 4 && !now.has(what - 4)) {
            return BAD;
        }
        thought.become(now);
        thought.passNights(n);
        switch (what) {
            case 0:
                return thought.walked;
            case 1:
                return thought.runs;
            case 2:
                return thought.mended;
            case 3:
                return thought.held();
            default:
                return thought.holding(what - 4);
        }
    }

    public int gone(int course, int loop) {
        if (!isLoop(course, loop)) {
            return BAD;
        }
        thought.become(now);
        for (int n = 0; n <= MOST_GONE; n++) {
            if ((thought.holding(course) >> loop & 1) == 0) {
                return n;
            }
            thought.passNight();
        }
        return NONE;
    }

    public int thick(int course, int n, int what) {
        if (!now.has(course) || !isPlan(n, what)) {
            return BAD;
        }
        int best = 1, most = -1;
        for (int gauge = 1; gauge <= MOST_GAUGE; gauge++) {
            thought.become(now);
            thought.gauge[course] = gauge;
            thought.passNights(n);
            int held = thought.held();
            if (held > most) {
                most = held;
                best = gauge;
            }
        }
        return what == 0 ? best : most;
    }

    public int becomes(int course, int n, int what) {
        if (!now.has(course) || !isPlan(n, what)) {
            return BAD;
        }
        int best = 0, most = -1;
        for (int kind = 0; kind < Kinds.KINDS; kind++) {
            thought.become(now);
            thought.kind[course] = kind;
            thought.passNights(n);
            int held = thought.held();
            if (held > most) {
                most = held;
                best = kind;
            }
        }
        return what == 0 ? best : most;
    }

    public int like(int sheet, int what) {
        if (!isSheet(sheet) || what < 0 || what > 1) {
            return BAD;
        }
        Sheet told = sheets[sheet];
        if (told.isMissing()) {
            return NOTHING;
        }
        if (now.courses == 0) {
            return NONE;
        }
        int best = 0, least = -1;
        for (int course = 0; course < now.courses; course++) {
            int apart = difference(course, told);
            if (least < 0 || apart < least) {
                least = apart;
                best = course;
            }
        }
        return what == 0 ? best : least;
    }

    public int fee() {
        int text = now.counting[Texts.FEE];
        return text < 0 ? now.runs : texts.gives(text, now, 0);
    }

    public int fine(int course) {
        if (!now.has(course)) {
            return BAD;
        }
        int text = now.counting[Texts.FINE];
        return text < 0 ? now.wear[course] : texts.gives(text, now, course);
    }

    // ---- texts

    public int feed(int a, int b, int c) {
        if (tape.length + FED_BYTES > MOST_BYTES) {
            return FULL;
        }
        tape.add(a);
        tape.add(b);
        tape.add(c);
        return tape.length;
    }

    public int trim(int n) {
        if (n < 0 || n > tape.length) {
            return BAD;
        }
        tape.length = n;
        return n;
    }

    public int text() {
        int fault = reader.faultOfTape();
        tape.length = 0;
        if (fault >= 0) {
            return FAULT - fault;
        }
        if (now.texts >= MOST_TEXTS) {
            return FULL;
        }
        texts.store(now.texts, reader);
        return now.addText(reader.key);
    }

    public int textTold(int text, int what) {
        if (text < 0 || text >= now.texts) {
            return BAD;
        }
        switch (what) {
            case 0:
                return texts.key[text];
            case 1:
                return texts.leaves[text];
            default:
                return BAD;
        }
    }

    public int why(int key) {
        if (key < 0 || key >= Texts.KEYS) {
            return BAD;
        }
        return now.counting[key] < 0 ? NONE : now.counting[key];
    }

    // ---- sheets, slots

    public int sheet(int sheet, int sort, int n) {
        if (!isSheet(sheet) || sort < Sheet.MISSING || sort > Sheet.FLOATS) {
            return BAD;
        }
        if (sort == Sheet.MISSING) {
            sheets[sheet].begin(Sheet.MISSING, 0);
            return 0;
        }
        if (n > Sheet.MOST_PLACES) {
            return BAD;
        }
        if (n < 0) {
            return SIZE;
        }
        sheets[sheet].begin(sort, n);
        return n;
    }

    public int mark(int sheet, int place, int v) {
        if (!isSheet(sheet)) {
            return BAD;
        }
        Sheet row = sheets[sheet];
        if (row.isMissing()) {
            return NOTHING;
        }
        if (!row.hasPlace(place)) {
            return INDEX;
        }
        if (row.sort == Sheet.SHORTS) {
            if (v == NONE) {
                return KIND;
            }
            row.places[place] = (short) v;
            return 1;
        }
        if (v != NONE && (v < -Sheet.MOST_FLOAT || v > Sheet.MOST_FLOAT)) {
            return BAD;
        }
        row.places[place] = v;
        return 1;
    }

    public int pour(int sheet) {
        if (!isSheet(sheet)) {
            return BAD;
        }
        Sheet row = sheets[sheet];
        if (row.isMissing()) {
            return NOTHING;
        }
        int changed = 0;
        for (int course = 0; course < now.courses; course++) {
            if (row.hasNumber(course)) {
                int wear = heldWithin(row.places[course], MOST_WEAR);
                if (wear != now.wear[course]) {
                    now.wear[course] = wear;
                    changed++;
                }
            }
        }
        return changed;
    }

    public int reads(int sheet) {
        if (!isSheet(sheet)) {
            return BAD;
        }
        Sheet row = sheets[sheet];
        if (row.isMissing()) {
            return NOTHING;
        }
        for (int place = 0; place < row.size; place++) {
            if (row.hasNumber(place) && (!now.has(place) || row.places[place] != now.gauge[place])) {
                return place;
            }
        }
        return NONE;
    }

    public int copy(int from, int place, int to, int at, int many) {
        if (!isSheet(from) || !isSheet(to)) {
            return BAD;
        }
        Sheet source = sheets[from], target = sheets[to];
        if (source.isMissing() || target.isMissing()) {
            return NOTHING;
        }
        if (source.sort != target.sort) {
            return KIND;
        }
        if (!source.hasPlaces(place, many) || !target.hasPlaces(at, many)) {
            return INDEX;
        }
        System.arraycopy(source.places, place, target.places, at, many);
        return many;
    }

    public int lay(int slot, int thing, int k) {
        if (!isSlot(slot)) {
            return BAD;
        }
        Slot holder = slots[slot];
        int held = holder.thing;
        switch (thing) {
            case Slot.EMPTY:
                holder.thing = Slot.EMPTY;
                return held;
            case Slot.COURSE:
                if (!now.has(k)) {
                    return BAD;
                }
                holder.takeCourse(now.kind[k], now.gauge[k]);
                return held;
            case Slot.SHEET:
                if (!isSheet(k)) {
                    return BAD;
                }
                if (sheets[k].isMissing()) {
                    return NOTHING;
                }
                holder.takeSheet(sheets[k]);
                return held;
            case Slot.NUMBER:
                holder.takeNumber(k);
                return held;
            default:
                return BAD;
        }
    }

    public int ask(int slot, int kind) {
        if (!isSlot(slot) || !Kinds.isKind(kind)) {
            return BAD;
        }
        Slot holder = slots[slot];
        if (holder.thing == Slot.EMPTY) {
            return NOTHING;
        }
        if (holder.thing != Slot.COURSE || !Kinds.isUnder(holder.kind, kind)) {
            return KIND;
        }
        return Kinds.worth(holder.kind, holder.gauge);
    }

    public int item(int slot, int place) {
        if (!isSlot(slot)) {
            return BAD;
        }
        Slot holder = slots[slot];
        if (holder.thing == Slot.EMPTY) {
            return NOTHING;
        }
        if (holder.thing != Slot.SHEET) {
            return KIND;
        }
        if (!holder.row.hasPlace(place)) {
            return INDEX;
        }
        return holder.row.hasNumber(place) ? holder.row.places[place] : KIND;
    }

    public int rest(int slot, int n) {
        if (!isSlot(slot)) {
            return BAD;
        }
        Slot holder = slots[slot];
        if (holder.thing == Slot.EMPTY) {
            return NOTHING;
        }
        if (holder.thing != Slot.NUMBER) {
            return KIND;
        }
        if (n == 0) {
            return NO;
        }
        return holder.number % n;
    }

    // ---- rows, images

    public int tell(int v) {
        if (waits >= MOST_WAITING) {
            return FULL;
        }
        waiting[waits] = v;
        waits++;
        return waits;
    }

    public int check(int n) {
        int told = waits;
        waits = 0;
        if (n < 1 || n > MOST_CHECKED) {
            return BAD;
        }
        if (!imageKept) {
            return NO;
        }
        thought.become(image);
        int right = 0;
        for (int i = 0; i < n && thought.night < MOST_NIGHT; i++) {
            thought.passNight();
            if (!isWaiting(right, told, thought.runs)) {
                return 1 + right;
            }
            right++;
            if (!isWaiting(right, told, thought.lostLoops())) {
                return 1 + right;
            }
            right++;
        }
        return told == right ? 0 : 1 + right;
    }

    public int keep() {
        image.become(now);
        imageKept = true;
        return image.courses;
    }

    public int back() {
        if (!imageKept) {
            return NO;
        }
        now.become(image);
        return now.courses;
    }

    public int count(int what) {
        switch (what) {
            case 0:
                return now.courses;
            case 1:
                return now.night;
            case 2:
            case 3:
            case 4:
                return now.rules[what - 2];
            case 5:
                return now.texts;
            case 6:
                return waits;
            case 7:
                return tape.length;
            case 8:
                return now.z;
            default:
                return BAD;
        }
    }

    // ---- what the calls share

    private boolean isLoop(int course, int loop) {
        return now.has(course) && loop >= 0 && loop < LOOPS;
    }

    private boolean isSheet(int sheet) {
        return sheet >= 0 && sheet < SHEETS;
    }

    private boolean isSlot(int slot) {
        return slot >= 0 && slot < SLOTS;
    }

    private static boolean isGauge(int gauge) {
        return gauge >= 1 && gauge <= MOST_GAUGE;
    }

    /** Whether THICK and BECOMES answer for so many NIGHTS and this question. */
    private static boolean isPlan(int n, int what) {
        return n >= 1 && n <= MOST_PLANNED && what >= 0 && what <= 1;
    }

    private static int heldWithin(int v, int most) {
        return Math.max(0, Math.min(most, v));
    }

    /** By how much WEAR of a COURSE, behind as many NIGHTS as a place has ahead of it, differs from a SHEET. */
    private int difference(int course, Sheet told) {
        thought.become(now);
        int sum = 0;
        for (int place = 0; place < told.size; place++) {
            if (told.hasNumber(place)) {
                sum += Math.abs(thought.wear[course] - told.places[place]);
            }
            thought.passNight();
        }
        return sum;
    }

    /** Whether, of so many numbers that waited, there is one at a place, and it is v. */
    private boolean isWaiting(int place, int told, int v) {
        return place < told && place < waiting.length && waiting[place] == v;
    }

    /** What the KINDS do; sets of LOOPS are told by bits. */
    private static final class Kinds {
        static final int PLAIN = 0, RIB = 1, LACE = 2, CABLE = 3, MOSS = 4, DARN = 5, KINDS = 6;

        /** By KIND: the one it is under (-1: none). */
        private static final int[] ABOVE = {-1, PLAIN, PLAIN, RIB, LACE, PLAIN};

        static boolean isKind(int kind) {
            return kind >= 0 && kind < KINDS;
        }

        /** Whether a KIND is another one, or under it. */
        static boolean isUnder(int kind, int other) {
            int at = kind;
            for (int i = 0; i < KINDS && isKind(at); i++) {
                if (at == other) {
                    return true;
                }
                at = ABOVE[at];
            }
            return false;
        }

        /** The LOOPS for which all on which they HANG are in the set below. */
        static int borne(int kind, int below) {
            switch (kind) {
                case CABLE:
                    return crossed(below);
                case LACE:
                case MOSS:
                    return below & oneBack(below);
                case DARN:
                    return ALL_LOOPS;
                default:
                    return below;
            }
        }

        /** The LOOPS that HANG on any in the set below. */
        static int over(int kind, int below) {
            switch (kind) {
                case CABLE:
                    return crossed(below);
                case LACE:
                case MOSS:
                    return below | oneBack(below);
                case DARN:
                    return 0;
                default:
                    return below;
            }
        }

        /** The LOOPS of the COURSE below on which any in the set HANG. */
        static int under(int kind, int set) {
            switch (kind) {
                case CABLE:
                    return crossed(set);
                case LACE:
                case MOSS:
                    return set | oneOn(set);
                case DARN:
                    return 0;
                default:
                    return set;
            }
        }

        static int wears(int kind, int plain) {
            switch (kind) {
                case RIB:
                case CABLE:
                    return Math.max(0, plain - 2);
                case LACE:
                    return 2 * plain;
                case MOSS:
                    return Math.max(0, 2 * plain - 3);
                case DARN:
                    return 1;
                default:
                    return plain;
            }
        }

        static int bears(int kind, int gauge) {
            int plain = 10 * gauge;
            switch (kind) {
                case CABLE:
                    return plain + 5;
                case MOSS:
                    return 2 * plain;
                default:
                    return plain;
            }
        }

        static int worth(int kind, int gauge) {
            int rib = gauge + 4, lace = 50 - gauge;
            switch (kind) {
                case RIB:
                    return rib;
                case CABLE:
                    return 2 * rib;
                case LACE:
                    return lace;
                case MOSS:
                    return lace - 6;
                case DARN:
                    return 7;
                default:
                    return gauge;
            }
        }

        /** Each LOOP for its neighbour in the pairs 0 and 1, 2 and 3, and so on. */
        private static int crossed(int set) {
            return (set & 0x55) << 1 | (set & 0xAA) >> 1;
        }

        /** Each LOOP for the one ahead of it (of 0: 7). */
        private static int oneBack(int set) {
            return set >> 1 | (set & 1) << 7;
        }

        /** Each LOOP for the next one (of 7: 0). */
        private static int oneOn(int set) {
            return (set << 1 | set >> 7) & ALL_LOOPS;
        }
    }

    /** All that an IMAGE keeps: the COURSES, the rules, what was counted, THE NIGHT, z, which TEXTS there are. */
    private static final class Town {
        private static final int KNITS = 0, MOTHS = 1, MENDS = 2, WALKS = 3, WEAR_UNTOLD = 6;

        final int[] kind = new int[MOST_COURSES];
        final int[] gauge = new int[MOST_COURSES];
        final int[] wear = new int[MOST_COURSES];
        final int[] lost = new int[MOST_COURSES];
        final int[] rules = {30, 20, 20};
        /** By KEY: the TEXT that counts (-1: none). */
        final int[] counting = {-1, -1, -1};
        private final Texts laws;
        int courses;
        int walked;
        int runs;
        int mended;
        int night;
        int z = 1;
        int texts;

        Town(Texts laws) {
            this.laws = laws;
        }

        void become(Town other) {
            System.arraycopy(other.kind, 0, kind, 0, MOST_COURSES);
            System.arraycopy(other.gauge, 0, gauge, 0, MOST_COURSES);
            System.arraycopy(other.wear, 0, wear, 0, MOST_COURSES);
            System.arraycopy(other.lost, 0, lost, 0, MOST_COURSES);
            System.arraycopy(other.rules, 0, rules, 0, rules.length);
            System.arraycopy(other.counting, 0, counting, 0, counting.length);
            courses = other.courses;
            walked = other.walked;
            runs = other.runs;
            mended = other.mended;
            night = other.night;
            z = other.z;
            texts = other.texts;
        }

        boolean has(int course) {
            return course >= 0 && course < courses;
        }

        boolean isFull() {
            return courses >= MOST_COURSES;
        }

        /** A COURSE comes above all, if there is room. */
        void add(int newKind, int newGauge, int newLost) {
            if (isFull()) {
                return;
            }
            kind[courses] = newKind;
            gauge[courses] = newGauge;
            wear[courses] = 0;
            lost[courses] = newLost;
            courses++;
        }

        /** One more TEXT counts from now on for its KEY: its number. */
        int addText(int key) {
            if (key >= 0 && key < counting.length) {
                counting[key] = texts;
            }
            texts++;
            return texts - 1;
        }

        void drawCourse() {
            int newKind = draw() % Kinds.KINDS;
            int newGauge = 1 + draw() % MOST_GAUGE;
            int one = draw();
            int other = draw();
            add(newKind, newGauge, one & other & ALL_LOOPS);
        }

        /** The LOOPS of a COURSE that HOLD. */
        int holding(int course) {
            int below = ALL_LOOPS;
            for (int c = 0; c <= course && c < courses; c++) {
                below = holdingOn(c, below);
            }
            return below;
        }

        /** The LOOPS of a COURSE that HOLD, if those of the COURSE below do that are in the set. */
        int holdingOn(int course, int below) {
            return Kinds.borne(kind[course], below) & ~lost[course];
        }

        /** How many LOOPS HOLD. */
        int held() {
            return heldWithout(0, 0);
        }

        /** How many LOOPS would HOLD, were these of a COURSE LOST, too. */
        int heldWithout(int course, int loops) {
            int below = ALL_LOOPS, many = 0;
            for (int c = 0; c < courses; c++) {
                below = holdingOn(c, below);
                if (c == course) {
                    below &= ~loops;
                }
                many += Integer.bitCount(below);
            }
            return many;
        }

        int lostLoops() {
            int many = 0;
            for (int c = 0; c < courses; c++) {
                many += Integer.bitCount(lost[c]);
            }
            return many;
        }

        /** How many LOOPS are LOST of a LOOP, those on which it HANGS, those on which these HANG, and so on. */
        int lostBelow(int course, int loop) {
            int set = 1 << loop, many = 0;
            for (int c = course; c >= 0; c--) {
                many += Integer.bitCount(set & lost[c]);
                set = Kinds.under(kind[c], set);
            }
            return many;
        }

        /** What a COURSE WEARS by one walk. */
        int wears(int course) {
            int text = counting[Texts.WEAR];
            int plain = text < 0 ? WEAR_UNTOLD : heldWithin(laws.gives(text, this, course), MOST_WEAR);
            return Kinds.wears(kind[course], plain);
        }

        void passNights(int n) {
            for (int i = 0; i < n; i++) {
                passNight();
            }
        }

        void passNight() {
            if (draw() % 100 < rules[KNITS]) {
                int newKind = draw() % Kinds.KINDS;
                int newGauge = 1 + draw() % MOST_GAUGE;
                add(newKind, newGauge, 0);
            }
            for (int i = 0; i < WALKS && courses > 0; i++) {
                walkSomewhere();
            }
            if (draw() % 100 < rules[MOTHS] && courses > 0) {
                int course = draw() % courses;
                int loop = draw() % LOOPS;
                lose(course, loop);
            }
            if (draw() % 100 < rules[MENDS]) {
                mendFirst();
            }
            night++;
        }

        private int draw() {
            z = z * 1103515245 + 12345;
            return z >>> 8;
        }

        private void walkSomewhere() {
            if (courses <= 0) {
                return;
            }
            int course = draw() % courses;
            int loop = draw() % LOOPS;
            walked++;
            wear[course] = Math.min(MOST_WEAR, wear[course] + wears(course));
            if (wear[course] > Kinds.bears(kind[course], gauge[course])) {
                wear[course] = 0;
                lose(course, loop);
            }
        }

        private void lose(int course, int loop) {
            int bit = 1 << loop;
            if ((lost[course] & bit) == 0) {
                lost[course] |= bit;
                runs++;
            }
        }

        private void mendFirst() {
            for (int c = 0; c < courses; c++) {
                if (lost[c] != 0) {
                    lost[c] &= lost[c] - 1;
                    mended++;
                    return;
                }
            }
        }
    }

    /** Looks for WAYS, a STEP at a time from all LOOPS at once; by COURSE, sets of LOOPS. */
    private static final class Ways {
        /** LOOPS that HOLD to which no STEP led yet. */
        private final int[] unseen = new int[MOST_COURSES];
        /** LOOPS to which the last STEP led first. */
        private final int[] front = new int[MOST_COURSES];
        private final int[] next = new int[MOST_COURSES];

        /** WAY, or NONE. */
        int steps(Town town, int course, int loop, int to, int there) {
            int fresh = begin(town, course, loop);
            for (int steps = 0; steps <= MOST_COURSES * LOOPS && fresh > 0; steps++) {
                if ((front[to] >> there & 1) != 0) {
                    return steps;
                }
                fresh = step(town);
            }
            return NONE;
        }

        /** REACH; 0, if the LOOP does not HOLD. */
        int reached(Town town, int course, int loop) {
            int fresh = begin(town, course, loop);
            int many = fresh;
            for (int steps = 0; steps <= MOST_COURSES * LOOPS && fresh > 0; steps++) {
                fresh = step(town);
                many += fresh;
            }
            return many;
        }

        /** Stands on a LOOP: on how many (0, if it does not HOLD). */
        private int begin(Town town, int course, int loop) {
            int below = ALL_LOOPS;
            for (int c = 0; c < town.courses; c++) {
                below = town.holdingOn(c, below);
                unseen[c] = below;
                front[c] = 0;
            }
            front[course] = unseen[course] & 1 << loop;
            unseen[course] &= ~front[course];
            return Integer.bitCount(front[course]);
        }

        /** Takes all STEPS from where the last one led: to how many LOOPS they lead first. */
        private int step(Town town) {
            int fresh = 0;
            for (int c = 0; c < town.courses; c++) {
                next[c] = near(town, c) & unseen[c];
                fresh += Integer.bitCount(next[c]);
            }
            for (int c = 0; c < town.courses; c++) {
                unseen[c] &= ~next[c];
                front[c] = next[c];
            }
            return fresh;
        }

        private int near(Town town, int course) {
            int near = front[course] << 1 | front[course] >> 1;
            if (course > 0) {
                near |= Kinds.over(town.kind[course], front[course - 1]);
            }
            if (course + 1 < town.courses) {
                near |= Kinds.under(town.kind[course + 1], front[course + 1]);
            }
            return near;
        }
    }

    /** THE TAPE. */
    private static final class Tape {
        final int[] bytes = new int[MOST_BYTES];
        int length;

        /** Four bytes come, the highest first, if there is room. */
        void add(int four) {
            for (int shift = 24; shift >= 0 && length < bytes.length; shift -= 8) {
                bytes[length] = four >>> shift & 255;
                length++;
            }
        }
    }

    /**
     * Reads THE TAPE as a TEXT and writes it as a row in which signs stand behind what they join: a NUMBER stands for
     * itself, a sign or a NAME is its byte, less than 0.
     */
    private static final class Reader {
        private static final int OR = 0, AND = 1, TEST = 2, SUM = 3, TERM = 4, PIECE = 5;
        private static final int END = 0, LETTERS = 1, DIGITS = 2, SIGN = 3, STUCK = 4;
        private static final int MOST_OPEN = 8, MOST_NOTS = 8, MOST_DIGITS = 4;

        private final Tape tape;
        final int[] row = new int[MOST_BYTES];
        int size;
        int leaves;
        int key;
        /** The word or sign at which the reader stands: what it is, its first place, the place behind it. */
        private int sort;
        private int start;
        private int end;

        Reader(Tape tape) {
            this.tape = tape;
        }

        /** The place of the FAULT, or -1, if THE TAPE is a TEXT. */
        int faultOfTape() {
            size = 0;
            leaves = 0;
            sort = END;
            end = 0;
            moveOn();
            key = keyHere();
            if (key < 0) {
                return start;
            }
            moveOn();
            return level(OR, 0, 0) && sort == END ? -1 : start;
        }

        private void moveOn() {
            boolean behindWord = sort == LETTERS || sort == DIGITS;
            int behind = end;
            start = end;
            while (start < tape.length && byteAt(start) == ' ') {
                start++;
            }
            end = start;
            if (start >= tape.length) {
                sort = END;
                return;
            }
            sort = sortOf(byteAt(start));
            end++;
            if (sort == SIGN) {
                return;
            }
            while (end < tape.length && sortOf(byteAt(end)) == sort) {
                end++;
            }
            if (behindWord && start == behind) {
                sort = STUCK;
            }
        }

        private int byteAt(int place) {
            return place >= 0 && place < tape.bytes.length ? tape.bytes[place] : 0;
        }

        private static int sortOf(int b) {
            if (b >= 'a' && b <= 'z') {
                return LETTERS;
            }
            return b >= '0' && b <= '9' ? DIGITS : SIGN;
        }

        private int keyHere() {
            if (isWord("wear")) {
                return Texts.WEAR;
            }
            if (isWord("fee")) {
                return Texts.FEE;
            }
            return isWord("fine") ? Texts.FINE : -1;
        }

        private boolean isWord(String word) {
            if (sort != LETTERS || end - start != word.length()) {
                return false;
            }
            for (int i = 0; i < word.length(); i++) {
                if (byteAt(start + i) != word.charAt(i)) {
                    return false;
                }
            }
            return true;
        }

        /** Reads E from a level on, looser ones left out, within so many ( and !: whether there is no FAULT. */
        private boolean level(int level, int open, int nots) {
            if (level >= PIECE) {
                return piece(open, nots);
            }
            if (!level(level + 1, open, nots)) {
                return false;
            }
            int most = level == TEST ? 1 : MOST_BYTES;
            for (int i = 0; i < most && sort == SIGN && levelOf(byteAt(start)) == level; i++) {
                int sign = byteAt(start);
                moveOn();
                if (!level(level + 1, open, nots)) {
                    return false;
                }
                write(-sign);
            }
            return true;
        }

        private static int levelOf(int sign) {
            switch (sign) {
                case '|':
                    return OR;
                case '&':
                    return AND;
                case '<':
                case '=':
                case '>':
                    return TEST;
                case '+':
                case '-':
                    return SUM;
                case '*':
                case '/':
                    return TERM;
                default:
                    return -1;
            }
        }

        private boolean piece(int open, int nots) {
            if (sort == DIGITS) {
                return number();
            }
            if (sort == LETTERS) {
                return name();
            }
            if (isSign('!') && nots < MOST_NOTS) {
                moveOn();
                if (!piece(open, nots + 1)) {
                    return false;
                }
                write(-'!');
                return true;
            }
            if (isSign('(') && open < MOST_OPEN) {
                moveOn();
                if (!level(OR, open + 1, nots) || !isSign(')')) {
                    return false;
                }
                moveOn();
                return true;
            }
            return false;
        }

        private boolean isSign(int sign) {
            return sort == SIGN && byteAt(start) == sign;
        }

        private boolean number() {
            if (end - start > MOST_DIGITS) {
                return false;
            }
            int v = 0;
            for (int place = start; place < end; place++) {
                v = 10 * v + byteAt(place) - '0';
            }
            return leaf(v);
        }

        private boolean name() {
            int letter = byteAt(start);
            return end - start == 1 && Texts.isName(key, letter) && leaf(-letter);
        }

        private boolean leaf(int code) {
            write(code);
            leaves++;
            moveOn();
            return true;
        }

        private void write(int code) {
            if (size < row.length) {
                row[size] = code;
                size++;
            }
        }
    }

    /**
     * The TEXTS as rows by number (how many count is the town's to tell: an IMAGE has fewer of the same), and what
     * they give.
     */
    private static final class Texts {
        static final int WEAR = 0, FEE = 1, FINE = 2, KEYS = 3;

        private final int[][] rows = new int[MOST_TEXTS][MOST_BYTES];
        private final int[] sizes = new int[MOST_TEXTS];
        final int[] key = new int[MOST_TEXTS];
        final int[] leaves = new int[MOST_TEXTS];
        private final int[] stack = new int[MOST_BYTES];
        private int top;

        static boolean isName(int key, int letter) {
            switch (letter) {
                case 'g':
                case 'w':
                    return key == WEAR || key == FINE;
                case 'n':
                    return key == WEAR;
                case 'r':
                case 'm':
                    return key == FEE;
                default:
                    return false;
            }
        }

        void store(int text, Reader reader) {
            if (text < 0 || text >= MOST_TEXTS) {
                return;
            }
            System.arraycopy(reader.row, 0, rows[text], 0, reader.size);
            sizes[text] = reader.size;
            key[text] = reader.key;
            leaves[text] = reader.leaves;
        }

        /** What a TEXT gives in a town, for a COURSE. */
        int gives(int text, Town town, int course) {
            if (text < 0 || text >= MOST_TEXTS) {
                return 0;
            }
            int[] row = rows[text];
            top = 0;
            for (int i = 0; i < sizes[text] && i < row.length; i++) {
                int code = row[i];
                if (code >= 0) {
                    push(code);
                } else if (isLetter(-code)) {
                    push(named(-code, town, course));
                } else if (-code == '!') {
                    push(truth(pop() == 0));
                } else {
                    int right = pop();
                    int left = pop();
                    push(joined(-code, left, right));
                }
            }
            return pop();
        }

        private static boolean isLetter(int sign) {
            return sign >= 'a' && sign <= 'z';
        }

        /** What a NAME stands for; g and w are 0 where there is no COURSE (in fee, which has neither). */
        private static int named(int letter, Town town, int course) {
            boolean known = course >= 0 && course < MOST_COURSES;
            switch (letter) {
                case 'g':
                    return known ? town.gauge[course] : 0;
                case 'w':
                    return known ? town.wear[course] : 0;
                case 'n':
                    return town.night;
                case 'r':
                    return town.runs;
                case 'm':
                    return town.mended;
                default:
                    return 0;
            }
        }

        private static int joined(int sign, int left, int right) {
            switch (sign) {
                case '|':
                    return truth(left != 0 || right != 0);
                case '&':
                    return truth(left != 0 && right != 0);
                case '<':
                    return truth(left < right);
                case '=':
                    return truth(left == right);
                case '>':
                    return truth(left > right);
                case '+':
                    return left + right;
                case '-':
                    return left - right;
                case '*':
                    return left * right;
                case '/':
                    return right == 0 ? 0 : left / right;
                default:
                    return 0;
            }
        }

        private static int truth(boolean so) {
            return so ? 1 : 0;
        }

        private void push(int v) {
            if (top >= 0 && top < stack.length) {
                stack[top] = v;
                top++;
            }
        }

        private int pop() {
            if (top <= 0 || top > stack.length) {
                return 0;
            }
            top--;
            return stack[top];
        }
    }

    /** A SHEET; a place that is NO NUMBER is NONE, which no number of a place can be. */
    private static final class Sheet {
        static final int MISSING = -1, SHORTS = 0, FLOATS = 1, MOST_PLACES = 24, MOST_FLOAT = 99999;

        final int[] places = new int[MOST_PLACES];
        int sort = MISSING;
        int size;

        void begin(int newSort, int n) {
            sort = newSort;
            size = n;
            for (int i = 0; i < MOST_PLACES; i++) {
                places[i] = 0;
            }
        }

        void become(Sheet other) {
            sort = other.sort;
            size = other.size;
            System.arraycopy(other.places, 0, places, 0, MOST_PLACES);
        }

        boolean isMissing() {
            return sort == MISSING;
        }

        boolean hasPlace(int place) {
            return place >= 0 && place < size;
        }

        boolean hasNumber(int place) {
            return hasPlace(place) && places[place] != NONE;
        }

        /** Whether there are so many places from one on (as for none at all, the one behind the last may be named). */
        boolean hasPlaces(int place, int many) {
            return place >= 0 && many >= 0 && place <= size && many <= size - place;
        }
    }

    /** A SLOT, with room of its own for all that it may hold. */
    private static final class Slot {
        static final int EMPTY = 0, COURSE = 1, SHEET = 2, NUMBER = 3;

        final Sheet row = new Sheet();
        int thing = EMPTY;
        int kind;
        int gauge;
        int number;

        void takeCourse(int newKind, int newGauge) {
            thing = COURSE;
            kind = newKind;
            gauge = newGauge;
        }

        void takeSheet(Sheet sheet) {
            thing = SHEET;
            row.become(sheet);
        }

        void takeNumber(int v) {
            thing = NUMBER;
            number = v;
        }
    }
}
