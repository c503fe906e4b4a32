/** Promises 31 to 39: sheets and slots. */
public final class SheetsTest {
    private static final int SHORTS = 0, FLOATS = 1;
    private static final int BAD = KnitStreets.BAD, NONE = KnitStreets.NONE, NOTHING = KnitStreets.NOTHING,
            KIND = KnitStreets.KIND, INDEX = KnitStreets.INDEX, SIZE = KnitStreets.SIZE;
    private static final Due DUE = new Due("SheetsTest");

    public static void main(String[] args) {
        promise31();
        promise32();
        promise33();
        promise34();
        promise35();
        promise35Refused();
        promise36();
        promise37();
        promise38();
        promise39();
        DUE.end();
    }

    /** A place of a SHEET, by slot 4. */
    private static int place(KnitStreets x, int sheet, int place) {
        x.lay(4, 2, sheet);
        return x.item(4, place);
    }

    private static void promise31() {
        KnitStreets x = new KnitStreets();
        DUE.is("31: shorts", x.sheet(0, SHORTS, 24), 24);
        DUE.is("31: floats", x.sheet(3, FLOATS, 0), 0);
        x.mark(0, 5, 7);
        DUE.is("31: anew", x.sheet(0, FLOATS, 9), 9);
        DUE.is("31: all 0", place(x, 0, 5), 0);
        DUE.is("31: nine places", place(x, 0, 9), INDEX);
        DUE.is("31: sheet", x.sheet(4, 0, 1), BAD);
        DUE.is("31: sheet", x.sheet(-1, 0, 1), BAD);
        DUE.is("31: sort", x.sheet(0, 2, 1), BAD);
        DUE.is("31: sort", x.sheet(0, -2, 1), BAD);
        DUE.is("31: 25", x.sheet(0, 0, 25), BAD);
        DUE.is("31: below 0", x.sheet(0, 0, -1), SIZE);
        DUE.is("31: BAD stands ahead of SIZE", x.sheet(4, 0, -1), BAD);
        DUE.is("31: BAD stands ahead of SIZE", x.sheet(0, 2, Integer.MIN_VALUE), BAD);
        DUE.is("31: as it was", place(x, 0, 8), 0);
        DUE.is("31: missing, n any", x.sheet(0, -1, 99), 0);
        DUE.is("31: missing", x.pour(0), NOTHING);
        DUE.is("31: missing, n any", x.sheet(3, -1, -7), 0);
        DUE.is("31: missing", x.reads(3), NOTHING);
        DUE.is("31: missing and no sheet", x.sheet(4, -1, 0), BAD);
    }

    private static void promise32() {
        KnitStreets x = new KnitStreets();
        DUE.is("32: NOTHING", x.mark(0, 0, 1), NOTHING);
        x.sheet(0, SHORTS, 2);
        x.sheet(1, FLOATS, 2);
        int[][] shorts = {{5, 5}, {32767, 32767}, {32768, -32768}, {65535, -1}, {65536, 0}, {-32769, 32767},
            {Integer.MAX_VALUE, -1}, {Integer.MIN_VALUE, 0}};
        for (int[] s : shorts) {
            DUE.is("32: a short", x.mark(0, 1, s[0]), 1);
            DUE.is("32: " + s[0] + " in shorts", place(x, 0, 1), s[1]);
        }
        DUE.is("32: the other", place(x, 0, 0), 0);
        for (int v : new int[] {99999, -99999, 0, 40000}) {
            DUE.is("32: a float", x.mark(1, 0, v), 1);
            DUE.is("32: " + v + " in floats", place(x, 1, 0), v);
        }
        DUE.is("32: above", x.mark(1, 0, 100000), BAD);
        DUE.is("32: below", x.mark(1, 0, -100000), BAD);
        DUE.is("32: another finding's number", x.mark(1, 0, NOTHING), BAD);
        DUE.is("32: as it was", place(x, 1, 0), 40000);
        DUE.is("32: NO NUMBER", x.mark(1, 0, NONE), 1);
        DUE.is("32: NO NUMBER", place(x, 1, 0), KIND);
        DUE.is("32: a number again", x.mark(1, 0, 3) + place(x, 1, 0), 4);
        DUE.is("32: NONE in shorts", x.mark(0, 0, NONE), KIND);
        DUE.is("32: INDEX stands ahead of KIND", x.mark(0, 2, NONE), INDEX);
        DUE.is("32: INDEX stands ahead of BAD v", x.mark(1, -1, 100000), INDEX);
        DUE.is("32: NOTHING stands ahead of INDEX", x.mark(2, 99, 0), NOTHING);
        DUE.is("32: sheet", x.mark(4, 0, 0), BAD);
        DUE.is("32: sheet", x.mark(-1, 99, 0), BAD);
    }

    private static void promise33() {
        KnitStreets x = new KnitStreets();
        for (int i = 0; i < 5; i++) {
            x.knit(0, 5);
            x.set(i, 2, 50);
        }
        x.sheet(0, FLOATS, 4);
        x.mark(0, 0, -99999);
        x.mark(0, 1, 99999);
        x.mark(0, 2, NONE);
        x.mark(0, 3, 50);
        DUE.is("33: two are otherwise", x.pour(0), 2);
        int[] wear = {0, 99, 50, 50, 50};
        for (int i = 0; i < 5; i++) {
            DUE.is("33: wear of " + i, x.told(i, 2), wear[i]);
        }
        DUE.is("33: none more", x.pour(0), 0);
        x.sheet(1, SHORTS, 24);
        x.mark(1, 7, 70);
        DUE.is("33: places beyond the courses", x.pour(1), 4);
        x.sheet(1, SHORTS, 0);
        DUE.is("33: no places", x.pour(1), 0);
        x.deal(12);
        x.sheet(1, SHORTS, 24);
        DUE.is("33: none of twelve", x.pour(1), 0);
        for (int i = 0; i < 24; i++) {
            x.mark(1, i, 3);
        }
        DUE.is("33: twelve courses", x.pour(1), 12);
        DUE.is("33: NOTHING", x.pour(2), NOTHING);
        DUE.is("33: sheet", x.pour(4), BAD);
        DUE.is("33: sheet", x.pour(-1), BAD);
    }

    private static void promise34() {
        KnitStreets x = new KnitStreets();
        x.knit(0, 5);
        x.knit(0, 7);
        x.sheet(0, FLOATS, 4);
        DUE.is("34: the first", x.reads(0), 0);
        x.mark(0, 0, 5);
        DUE.is("34: the second", x.reads(0), 1);
        x.mark(0, 1, NONE);
        DUE.is("34: no course there", x.reads(0), 2);
        x.mark(0, 2, NONE);
        DUE.is("34: no course there either", x.reads(0), 3);
        x.mark(0, 3, NONE);
        DUE.is("34: none", x.reads(0), NONE);
        x.sheet(1, SHORTS, 2);
        x.mark(1, 0, 5);
        x.mark(1, 1, 7);
        DUE.is("34: all are gauge", x.reads(1), NONE);
        x.sheet(1, SHORTS, 0);
        DUE.is("34: no places", x.reads(1), NONE);
        DUE.is("34: NOTHING", x.reads(2), NOTHING);
        DUE.is("34: sheet", x.reads(4), BAD);
        DUE.is("34: sheet", x.reads(-1), BAD);
    }

    private static KnitStreets counted(int sort, int n) {
        KnitStreets x = new KnitStreets();
        x.sheet(0, sort, n);
        for (int i = 0; i < n; i++) {
            x.mark(0, i, i + 1);
        }
        return x;
    }

    private static void promise35() {
        KnitStreets x = counted(SHORTS, 8);
        DUE.is("35: on within the same", x.copy(0, 0, 0, 2, 5), 5);
        places(x, 0, 1, 2, 1, 2, 3, 4, 5, 8);
        x = counted(SHORTS, 8);
        DUE.is("35: back within the same", x.copy(0, 3, 0, 0, 5), 5);
        places(x, 0, 4, 5, 6, 7, 8, 6, 7, 8);
        x = counted(FLOATS, 4);
        x.mark(0, 2, NONE);
        x.sheet(3, FLOATS, 6);
        DUE.is("35: to another", x.copy(0, 1, 3, 3, 3), 3);
        places(x, 3, 0, 0, 0, 2, KIND, 4);
        places(x, 0, 1, 2, KIND, 4);
        DUE.is("35: none", x.copy(0, 4, 3, 6, 0), 0);
        DUE.is("35: none from the start", x.copy(0, 0, 3, 0, 0), 0);
    }

    private static void places(KnitStreets x, int sheet, int... want) {
        for (int i = 0; i < want.length; i++) {
            DUE.is("35: place " + i, place(x, sheet, i), want[i]);
        }
        DUE.is("35: no more", place(x, sheet, want.length), INDEX);
    }

    private static void promise35Refused() {
        KnitStreets x = counted(SHORTS, 4);
        x.sheet(1, FLOATS, 4);
        x.sheet(2, SHORTS, 2);
        DUE.is("35: from", x.copy(4, 0, 0, 0, 0), BAD);
        DUE.is("35: from", x.copy(-1, 0, 0, 0, 0), BAD);
        DUE.is("35: to", x.copy(0, 0, 4, 0, 0), BAD);
        DUE.is("35: BAD stands ahead of NOTHING", x.copy(3, 0, -1, 0, 0), BAD);
        DUE.is("35: from is missing", x.copy(3, 0, 0, 0, 0), NOTHING);
        DUE.is("35: to is missing", x.copy(0, 9, 3, 9, 9), NOTHING);
        DUE.is("35: sorts", x.copy(0, 9, 1, 9, 9), KIND);
        int[][] index = {{-1, 0, 1}, {0, -1, 1}, {0, 1, 2}, {3, 0, 2}, {5, 0, 0}, {0, 3, 0}, {0, 0, 3},
            {0, 0, -1}, {1, 0, Integer.MAX_VALUE}, {Integer.MAX_VALUE, 0, 1}, {0, Integer.MIN_VALUE, 1}};
        for (int[] i : index) {
            DUE.is("35: copy(0, " + i[0] + ", 2, " + i[1] + ", " + i[2] + ")", x.copy(0, i[0], 2, i[1], i[2]), INDEX);
        }
        places(x, 2, 0, 0);
    }

    private static void promise36() {
        KnitStreets x = new KnitStreets();
        x.knit(1, 5);
        x.sheet(0, SHORTS, 1);
        DUE.is("36: held nothing", x.lay(0, 1, 0), 0);
        DUE.is("36: held a course", x.lay(0, 2, 0), 1);
        DUE.is("36: held a sheet", x.lay(0, 3, Integer.MIN_VALUE), 2);
        DUE.is("36: held a number", x.lay(0, 0, 99), 3);
        DUE.is("36: held nothing", x.lay(0, 3, 5), 0);
        DUE.is("36: slot", x.lay(5, 0, 0), BAD);
        DUE.is("36: slot", x.lay(-1, 0, 0), BAD);
        DUE.is("36: thing", x.lay(0, 4, 0), BAD);
        DUE.is("36: thing", x.lay(0, -1, 0), BAD);
        DUE.is("36: course", x.lay(0, 1, 1), BAD);
        DUE.is("36: course", x.lay(0, 1, -1), BAD);
        DUE.is("36: sheet", x.lay(0, 2, 4), BAD);
        DUE.is("36: sheet", x.lay(0, 2, -1), BAD);
        DUE.is("36: missing", x.lay(0, 2, 1), NOTHING);
        DUE.is("36: it holds what it held", x.rest(0, 3), 2);
    }

    private static void promise37() {
        KnitStreets x = new KnitStreets();
        x.knit(3, 5);
        x.lay(2, 1, 0);
        DUE.is("37: by its own kind", x.ask(2, 0), 18);
        DUE.is("37: as rib", x.ask(2, 1), 18);
        DUE.is("37: as cable", x.ask(2, 3), 18);
        DUE.is("37: not lace", x.ask(2, 2), KIND);
        DUE.is("37: not darn", x.ask(2, 5), KIND);
        x.turns(0, 2);
        x.set(0, 1, 9);
        DUE.is("37: as it was then", x.ask(2, 3), 18);
        x.lay(1, 1, 0);
        DUE.is("37: as it is now", x.ask(1, 2), 41);
        DUE.is("37: lace is no moss", x.ask(1, 4), KIND);
        DUE.is("37: nothing", x.ask(0, 0), NOTHING);
        x.lay(0, 3, 3);
        DUE.is("37: a number", x.ask(0, 0), KIND);
        x.sheet(0, 0, 1);
        x.lay(0, 2, 0);
        DUE.is("37: a sheet", x.ask(0, 0), KIND);
        DUE.is("37: slot", x.ask(5, 0), BAD);
        DUE.is("37: slot", x.ask(-1, 0), BAD);
        DUE.is("37: kind", x.ask(2, 6), BAD);
        DUE.is("37: kind, ahead of NOTHING", x.ask(3, -1), BAD);
    }

    private static void promise38() {
        KnitStreets x = counted(FLOATS, 3);
        x.mark(0, 1, NONE);
        x.lay(1, 2, 0);
        x.mark(0, 0, 77);
        x.sheet(0, -1, 0);
        DUE.is("38: a row of its own", x.item(1, 0), 1);
        DUE.is("38: NO NUMBER", x.item(1, 1), KIND);
        DUE.is("38: a place", x.item(1, 2), 3);
        DUE.is("38: INDEX", x.item(1, 3), INDEX);
        DUE.is("38: INDEX", x.item(1, -1), INDEX);
        DUE.is("38: slot", x.item(5, 0), BAD);
        DUE.is("38: slot", x.item(-1, 0), BAD);
        DUE.is("38: nothing", x.item(0, 0), NOTHING);
        x.lay(0, 3, 5);
        DUE.is("38: a number, ahead of INDEX", x.item(0, 99), KIND);
        x.knit(0, 1);
        x.lay(0, 1, 0);
        DUE.is("38: a course", x.item(0, 0), KIND);
    }

    private static void promise39() {
        KnitStreets x = new KnitStreets();
        int[][] rests = {{17, 5, 2}, {-17, 5, -2}, {17, -5, 2}, {Integer.MIN_VALUE, -1, 0}, {3, Integer.MIN_VALUE, 3}};
        for (int[] r : rests) {
            x.lay(3, 3, r[0]);
            DUE.is("39: rest of " + r[0] + " by " + r[1], x.rest(3, r[1]), r[2]);
        }
        DUE.is("39: by 0", x.rest(3, 0), KnitStreets.NO);
        DUE.is("39: slot", x.rest(5, 0), BAD);
        DUE.is("39: slot", x.rest(-1, 1), BAD);
        DUE.is("39: nothing, ahead of NO", x.rest(0, 0), NOTHING);
        x.knit(0, 1);
        x.lay(0, 1, 0);
        DUE.is("39: a course, ahead of NO", x.rest(0, 0), KIND);
        x.sheet(0, 0, 1);
        x.lay(0, 2, 0);
        DUE.is("39: a sheet", x.rest(0, 1), KIND);
    }
}
