/** Promises 14 to 18: ways and chains. */
public final class WaysTest {
    private static final int PLAIN = 0, LACE = 2, CABLE = 3, MOSS = 4, DARN = 5;
    private static final Due DUE = new Due("WaysTest");

    public static void main(String[] args) {
        promise14();
        promise14RoundTheCorner();
        promise14AndTwelve();
        promise15();
        promise16();
        promise17();
        promise18();
        wrongInputs();
        DUE.end();
    }

    private static KnitStreets knitted(int... kinds) {
        KnitStreets x = new KnitStreets();
        for (int kind : kinds) {
            x.knit(kind, 5);
        }
        return x;
    }

    private static void promise14() {
        KnitStreets x = knitted(PLAIN, PLAIN, CABLE);
        DUE.is("14: to itself", x.way(1, 4, 1, 4), 0);
        DUE.is("14: beside", x.way(0, 0, 0, 1), 1);
        DUE.is("14: 7 and 0 are not beside one another", x.way(0, 0, 0, 7), 7);
        DUE.is("14: up", x.way(0, 3, 1, 3), 1);
        DUE.is("14: down", x.way(1, 3, 0, 3), 1);
        DUE.is("14: up crossed", x.way(1, 2, 2, 3), 1);
        DUE.is("14: up straight takes one aside", x.way(1, 2, 2, 2), 2);
        DUE.is("14: all the way", x.way(0, 0, 2, 7), 8);
        x.drops(0, 4);
        DUE.is("14: over a gap by the crossing", x.way(0, 3, 0, 5), 6);
        DUE.is("14: one that is lost", x.way(0, 4, 0, 4), KnitStreets.NONE);
        DUE.is("14: from one that does not hold", x.way(1, 4, 0, 0), KnitStreets.NONE);
        DUE.is("14: to one that does not hold", x.way(0, 0, 2, 5), KnitStreets.NONE);
        DUE.is("14: through the crossing", x.way(2, 4, 2, 3), 1);
        x.turns(2, PLAIN);
        DUE.is("14: over a gap there is none", x.way(0, 3, 0, 5), KnitStreets.NONE);
        KnitStreets darned = knitted(PLAIN, DARN);
        DUE.is("14: a darn hangs on nothing", darned.way(0, 0, 1, 0), KnitStreets.NONE);
        DUE.is("14: along a darn", darned.way(1, 7, 1, 0), 7);
    }

    private static void promise14RoundTheCorner() {
        KnitStreets x = knitted(PLAIN, LACE);
        DUE.is("14: lace of 7 hangs on 0", x.way(1, 7, 0, 0), 1);
        DUE.is("14: and on 7", x.way(1, 7, 0, 7), 1);
        DUE.is("14: from 0 to 7 over lace", x.way(0, 0, 0, 7), 2);
        DUE.is("14: lace of 2 hangs on 3", x.way(0, 3, 1, 2), 1);
        DUE.is("14: but not on 1", x.way(0, 1, 1, 2), 2);
        KnitStreets moss = knitted(DARN, MOSS);
        DUE.is("14: moss as lace", moss.way(0, 7, 0, 0), 2);
    }

    private static void promise14AndTwelve() {
        KnitStreets x = knitted(0, 0, 0, 0, 0, 0, 0, 0, 0, 0, 0, 0);
        DUE.is("14: through twelve", x.way(0, 0, 11, 7), 18);
        DUE.is("14: and down", x.way(11, 7, 0, 0), 18);
        DUE.is("15: all", x.reach(11, 3), 96);
        DUE.is("16: a column", x.pulled(0, 7), 12);
        worst(x, 0, 0, 12);
        x.drops(0, 2);
        x.drops(11, 2);
        DUE.is("18: two", x.needs(11, 2), 2);
        for (int course = 0; course < 12; course++) {
            x.turns(course, course == 5 ? 5 : 2);
        }
        DUE.is("14: over the darn there is none", x.way(0, 0, 11, 7), KnitStreets.NONE);
    }

    private static void promise15() {
        KnitStreets x = knitted(PLAIN, PLAIN, DARN, PLAIN);
        DUE.is("15: two courses", x.reach(0, 0), 16);
        DUE.is("15: over the darn", x.reach(3, 7), 16);
        x.drops(0, 3);
        DUE.is("15: three columns", x.reach(1, 1), 6);
        DUE.is("15: four columns", x.reach(1, 7), 8);
        DUE.is("15: it does not hold", x.reach(1, 3), 0);
        DUE.is("15: it is lost", x.reach(0, 3), 0);
        x.drops(2, 1);
        DUE.is("15: itself and the one on it", x.reach(2, 0), 2);
    }

    private static void promise16() {
        KnitStreets x = knitted(PLAIN, LACE, LACE, DARN, PLAIN);
        DUE.is("16: 1 and 2 and 3", x.pulled(0, 4), 6);
        DUE.is("16: 1 and 2", x.pulled(1, 4), 3);
        DUE.is("16: 1", x.pulled(2, 4), 1);
        DUE.is("16: 2", x.pulled(3, 4), 2);
        DUE.is("16: nothing is pulled by asking", x.town(4), 0);
        x.drops(0, 4);
        DUE.is("16: it is lost", x.pulled(0, 4), 0);
        DUE.is("16: it does not hold", x.pulled(1, 4), 0);
        DUE.is("16: what hangs on it is less", x.pulled(0, 3), 3);
    }

    private static void promise17() {
        KnitStreets x = new KnitStreets();
        DUE.is("17: no courses", x.worst(0), KnitStreets.NONE);
        DUE.is("17: no courses", x.worst(2), KnitStreets.NONE);
        DUE.is("17: BAD stands ahead", x.worst(3), KnitStreets.BAD);
        DUE.is("17: BAD stands ahead", x.worst(-1), KnitStreets.BAD);
        x.knit(DARN, 1);
        x.knit(DARN, 1);
        worst(x, 0, 0, 1);
        x.knit(PLAIN, 1);
        worst(x, 1, 0, 2);
        x.drops(2, 0);
        worst(x, 1, 1, 2);
        x.knit(LACE, 1);
        x.drops(0, 0);
        worst(x, 1, 2, 4);
        for (int loop = 0; loop < 8; loop++) {
            for (int course = 0; course < 4; course++) {
                x.drops(course, loop);
            }
        }
        worst(x, 0, 0, 0);
    }

    private static void worst(KnitStreets x, int course, int loop, int pulled) {
        DUE.is("17: the course", x.worst(0), course);
        DUE.is("17: the loop", x.worst(1), loop);
        DUE.is("17: how many", x.worst(2), pulled);
    }

    private static void promise18() {
        KnitStreets x = knitted(PLAIN, LACE, LACE);
        DUE.is("18: none", x.needs(2, 6), 0);
        x.drops(0, 0);
        x.drops(1, 7);
        x.drops(2, 6);
        // 6 of course 2 hangs on 6 and 7 of course 1, these on 6, 7 and 0 of course 0
        DUE.is("18: each once", x.needs(2, 6), 3);
        DUE.is("18: 7 hangs on 7 and 0, these on 7, 0, 1", x.needs(2, 7), 2);
        DUE.is("18: of itself", x.needs(0, 0), 1);
        DUE.is("18: not of others", x.needs(2, 3), 0);
        x.turns(1, DARN);
        DUE.is("18: a darn's hang on nothing", x.needs(2, 6), 2);
        x.turns(1, CABLE);
        // 6 and 7 of course 1 on 7 and 6 of course 0
        x.hooks(0, 0);
        x.drops(0, 6);
        DUE.is("18: crossed", x.needs(1, 7), 2);
        DUE.is("18: crossed", x.needs(1, 6), 0);
    }

    private static void wrongInputs() {
        KnitStreets x = knitted(PLAIN, PLAIN);
        int[][] bad = {{2, 0}, {-1, 0}, {0, -1}, {0, 8}, {Integer.MIN_VALUE, 0}, {1, Integer.MAX_VALUE}};
        for (int[] b : bad) {
            DUE.is("14: from", x.way(b[0], b[1], 0, 0), KnitStreets.BAD);
            DUE.is("14: to", x.way(0, 0, b[0], b[1]), KnitStreets.BAD);
            DUE.is("15", x.reach(b[0], b[1]), KnitStreets.BAD);
            DUE.is("16", x.pulled(b[0], b[1]), KnitStreets.BAD);
            DUE.is("18", x.needs(b[0], b[1]), KnitStreets.BAD);
        }
        x.drops(0, 0);
        DUE.is("14: BAD stands ahead of NONE", x.way(0, 0, 0, 8), KnitStreets.BAD);
    }
}
