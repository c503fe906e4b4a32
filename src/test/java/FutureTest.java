/** Promises 19 to 23: what will be. */
public final class FutureTest {
    private static final Due DUE = new Due("FutureTest");

    public static void main(String[] args) {
        promise19();
        promise19Courses();
        promise20();
        promise21And22();
        promise21Least();
        promise21Best();
        promise23();
        beyondTheLastNight();
        nothingChanges();
        DUE.end();
    }

    private static KnitStreets dealt(int z, int n) {
        KnitStreets x = new KnitStreets();
        x.seed(z);
        if (n > 0) {
            x.deal(n);
        }
        return x;
    }

    private static void promise19() {
        for (int n = 0; n <= 100; n += 20) {
            KnitStreets x = dealt(n + 3, 4), later = dealt(n + 3, 4);
            if (n > 0) {
                later.nights(n);
            }
            for (int what = 0; what < 4; what++) {
                DUE.is("19: behind(" + n + ", " + what + ")", x.behind(n, what), later.town(what));
            }
            for (int course = 0; course < 4; course++) {
                DUE.is("19: loops behind " + n, x.behind(n, 4 + course), later.told(course, 4));
            }
        }
        KnitStreets x = dealt(1, 2);
        int[][] bad = {{-1, 0}, {101, 0}, {0, -1}, {0, 16}, {5, Integer.MAX_VALUE}, {0, Integer.MIN_VALUE}};
        for (int[] b : bad) {
            DUE.is("19: behind(" + b[0] + ", " + b[1] + ")", x.behind(b[0], b[1]), KnitStreets.BAD);
        }
    }

    /** COURSES that come in the NIGHTS are only thought: what is asked of one is BAD until it is there. */
    private static void promise19Courses() {
        KnitStreets x = dealt(8, 1), later = dealt(8, 1);
        x.rule(0, 100);
        later.rule(0, 100);
        DUE.is("19: by then there are 12", later.nights(100) >= 0 ? later.count(0) : -1, 12);
        DUE.is("19: of the one that there is", x.behind(100, 4), later.told(0, 4));
        for (int course = 1; course < 12; course++) {
            DUE.is("19: of " + course + ", that comes only in thought", x.behind(100, 4 + course), KnitStreets.BAD);
            DUE.is("19: of " + course + ", not there at once", x.behind(0, 4 + course), KnitStreets.BAD);
        }
        x.nights(1);
        DUE.is("19: of one that has come", x.behind(99, 5), later.told(1, 4));
        DUE.is("19: of the one above it", x.behind(99, 6), KnitStreets.BAD);
        x.deal(12);
        DUE.is("19: of the twelfth", x.behind(0, 15), x.told(11, 4));
        DUE.is("19: of a thirteenth", x.behind(0, 16), KnitStreets.BAD);
        DUE.is("19: of none at all", new KnitStreets().behind(50, 5), KnitStreets.BAD);
        DUE.is("19: of the first, that is not there", new KnitStreets().behind(100, 4), KnitStreets.BAD);
        DUE.so("19: without COURSES, the town", new KnitStreets().behind(100, 0) > 0);
    }

    private static void promise20() {
        KnitStreets x = dealt(5, 0);
        for (int i = 0; i < 2; i++) {
            x.knit(0, 2);
        }
        x.drops(0, 6);
        DUE.is("20: it does not hold now", x.gone(0, 6), 0);
        DUE.is("20: what hangs on it", x.gone(1, 6), 0);
        x.keep();
        for (int loop = 0; loop < 8; loop++) {
            int n = x.gone(1, loop);
            int first = 0;
            while (first <= 200 && (x.told(1, 4) >> loop & 1) != 0) {
                x.nights(1);
                first++;
            }
            DUE.is("20: gone(1, " + loop + ")", n, first > 200 ? KnitStreets.NONE : first);
            x.back();
        }
        x = dealt(5, 0);
        x.knit(5, 9);
        x.rule(1, 0);
        // 600 walks of a darn, with 1 each, wear it out six times
        DUE.so("20: some are gone", x.gone(0, 0) != 0);
        TextsTest.tell(x, "wear 0");
        x.turns(0, 1);
        x.rule(0, 0);
        for (int loop = 0; loop < 8; loop++) {
            DUE.is("20: not by then", x.gone(0, loop), KnitStreets.NONE);
        }
        DUE.is("20: loop", x.gone(0, 8), KnitStreets.BAD);
        DUE.is("20: loop", x.gone(0, -1), KnitStreets.BAD);
        DUE.is("20: course", x.gone(1, 0), KnitStreets.BAD);
        lastNightsOfGone();
    }

    /** A rib wears by 98 on the 200th (or 201st) night alone, and bears less: each walk of that night tears a loop. */
    private static void lastNightsOfGone() {
        for (int night = 199; night <= 200; night++) {
            KnitStreets x = dealt(5, 0);
            x.knit(1, 9);
            x.rule(0, 0);
            x.rule(1, 0);
            x.rule(2, 0);
            TextsTest.tell(x, "wear (n=" + night + ")*99");
            int torn = 0;
            for (int loop = 0; loop < 8; loop++) {
                int n = x.gone(0, loop);
                torn += n == 200 ? 1 : 0;
                DUE.so("20: 200 or never", n == 200 || n == KnitStreets.NONE);
            }
            DUE.is("20: behind 200 nights, no more", torn > 0 ? 1 : 0, night == 199 ? 1 : 0);
        }
    }

    private static void promise21And22() {
        for (int z = 1; z <= 3; z++) {
            for (int n = 1; n <= 60; n += 59) {
                KnitStreets x = dealt(z, 3);
                int best = 0, most = -1;
                x.keep();
                for (int gauge = 1; gauge <= 9; gauge++) {
                    x.set(1, 1, gauge);
                    x.nights(n);
                    if (x.town(3) > most) {
                        most = x.town(3);
                        best = gauge;
                    }
                    x.back();
                }
                DUE.is("21: the gauge", x.thick(1, n, 0), best);
                DUE.is("21: how many", x.thick(1, n, 1), most);
                most = -1;
                for (int kind = 0; kind < 6; kind++) {
                    x.turns(1, kind);
                    x.nights(n);
                    if (x.town(3) > most) {
                        most = x.town(3);
                        best = kind;
                    }
                    x.back();
                }
                DUE.is("22: the kind", x.becomes(1, n, 0), best);
                DUE.is("22: how many", x.becomes(1, n, 1), most);
            }
        }
        KnitStreets x = dealt(1, 2);
        int[][] bad = {{2, 1, 0}, {-1, 1, 0}, {0, 0, 0}, {0, 61, 0}, {0, -1, 1}, {0, 1, 2}, {0, 1, -1}};
        for (int[] b : bad) {
            DUE.is("21: BAD", x.thick(b[0], b[1], b[2]), KnitStreets.BAD);
            DUE.is("22: BAD", x.becomes(b[0], b[1], b[2]), KnitStreets.BAD);
        }
    }

    private static void promise21Least() {
        KnitStreets x = dealt(1, 0);
        x.knit(3, 7);
        x.rule(0, 0);
        x.rule(1, 0);
        TextsTest.tell(x, "wear 0");
        DUE.is("21: of several the least", x.thick(0, 5, 0), 1);
        DUE.is("21: all hold", x.thick(0, 5, 1), 8);
        DUE.is("22: of several the least", x.becomes(0, 5, 0), 0);
        DUE.is("22: all hold", x.becomes(0, 5, 1), 8);
    }

    /** With 27 a walk, 81 a night, GAUGE 9 alone bears the first night; of two nights a DARN alone. */
    private static void promise21Best() {
        KnitStreets x = dealt(1, 0);
        x.knit(0, 1);
        x.rule(0, 0);
        x.rule(1, 0);
        x.rule(2, 0);
        TextsTest.tell(x, "wear 27");
        DUE.is("21: the thickest", x.thick(0, 1, 0), 9);
        DUE.is("21: all hold", x.thick(0, 1, 1), 8);
        TextsTest.tell(x, "wear (g<5)*99+(g=5)*20+(g>5)*99");
        DUE.is("21: 20, 40, 60 with gauge 5, 99 with all others", x.thick(0, 1, 0), 5);
        DUE.is("21: one ran", x.thick(0, 1, 1), 7);
        x.set(0, 1, 4);
        TextsTest.tell(x, "wear 27");
        DUE.is("22: a darn", x.becomes(0, 2, 0), 5);
        DUE.is("22: all hold", x.becomes(0, 2, 1), 8);
        DUE.is("22: it is what it was", x.told(0, 0), 0);
        DUE.is("21: it is as it was", x.told(0, 1), 4);
    }

    private static void promise23() {
        KnitStreets x = dealt(1, 0);
        DUE.is("23: NOTHING stands ahead of NONE", x.like(0, 0), KnitStreets.NOTHING);
        x.sheet(0, 1, 3);
        DUE.is("23: no courses", x.like(0, 0), KnitStreets.NONE);
        DUE.is("23: what", x.like(0, 2), KnitStreets.BAD);
        DUE.is("23: what", x.like(0, -1), KnitStreets.BAD);
        DUE.is("23: sheet", x.like(4, 0), KnitStreets.BAD);
        DUE.is("23: sheet", x.like(-1, 0), KnitStreets.BAD);
        x.knit(5, 9);
        x.rule(0, 0);
        // a darn by itself wears 3 a night
        x.mark(0, 0, 4);
        x.mark(0, 1, -1);
        x.mark(0, 2, 10);
        DUE.is("23: 4 and 4 and 4", x.like(0, 1), 12);
        x.mark(0, 1, KnitStreets.NONE);
        DUE.is("23: of numbers alone", x.like(0, 1), 8);
        x.sheet(0, 0, 24);
        DUE.is("23: 24 places", x.like(0, 1), 3 * (23 * 24 / 2));
        x.sheet(0, 0, 0);
        DUE.is("23: no places", x.like(0, 1), 0);
        DUE.is("23: of several the least", x.like(0, 0), 0);
        x.sheet(0, 1, 1);
        x.knit(0, 9);
        x.set(0, 2, 10);
        x.set(1, 2, 20);
        x.mark(0, 0, 15);
        DUE.is("23: of several the least", x.like(0, 0), 0);
        x.mark(0, 0, 16);
        DUE.is("23: the other", x.like(0, 0), 1);
        DUE.is("23: apart", x.like(0, 1), 4);
        x.mark(0, 0, -99999);
        DUE.is("23: far below", x.like(0, 1), 100009);
    }

    private static void beyondTheLastNight() {
        KnitStreets x = dealt(1, 0);
        x.rule(0, 0);
        x.rule(1, 0);
        x.rule(2, 0);
        for (int i = 0; i < 100; i++) {
            x.nights(100);
        }
        x.knit(1, 9);
        DUE.is("19: the night", x.count(1), 9999);
        DUE.is("19: without the bound", x.behind(7, 0), 21);
        TextsTest.tell(x, "wear (n>9999)*50");
        DUE.so("20: the night goes on in thought", gone(x) == 2);
        x.sheet(0, 0, 2);
        DUE.is("19: by the night in thought: 0, 0, 0, 48, 96, 48", x.behind(2, 1), 1);
        x.mark(0, 1, 7);
        DUE.is("23: without the bound: 0, 0 less 7", x.like(0, 1), 7);
        x.sheet(0, 0, 3);
        DUE.is("23: without the bound: 0, 0, 48", x.like(0, 1), 48);
    }

    private static int gone(KnitStreets x) {
        int first = 1000;
        for (int loop = 0; loop < 8; loop++) {
            int n = x.gone(0, loop);
            first = n >= 0 ? Math.min(first, n) : first;
        }
        return first;
    }

    private static void nothingChanges() {
        KnitStreets x = dealt(77, 5), same = dealt(77, 5);
        x.sheet(0, 0, 9);
        same.sheet(0, 0, 9);
        x.behind(50, 3);
        x.gone(1, 1);
        x.thick(1, 30, 0);
        x.becomes(1, 30, 0);
        x.like(0, 0);
        for (int what = 0; what < 9; what++) {
            DUE.is("19 to 23: count", x.count(what), same.count(what));
        }
        for (int what = 0; what < 5; what++) {
            DUE.is("19 to 23: town", x.town(what), same.town(what));
        }
        for (int course = 0; course < 5; course++) {
            for (int what = 0; what < 8; what++) {
                DUE.is("19 to 23: told", x.told(course, what), same.told(course, what));
            }
        }
    }
}
