/** Promises 1 to 11: courses and loops. */
public final class CoursesTest {
    private static final int PLAIN = 0, RIB = 1, LACE = 2, CABLE = 3, MOSS = 4, DARN = 5;
    private static final Due DUE = new Due("CoursesTest");

    public static void main(String[] args) {
        promise1();
        promise2();
        promise3Numbers();
        promise3Holds();
        promise3Wears();
        promise4();
        promise5();
        promise6();
        promise7And8();
        promise9();
        promise10();
        promise11();
        DUE.end();
    }

    private static void promise1() {
        KnitStreets x = new KnitStreets();
        int[] counted = {0, 0, 30, 20, 20, 0, 0, 0, 1};
        for (int what = 0; what < counted.length; what++) {
            DUE.is("1: count(" + what + ")", x.count(what), counted[what]);
        }
        for (int what = 0; what < 5; what++) {
            DUE.is("1: town(" + what + ")", x.town(what), 0);
        }
        for (int sheet = 0; sheet < 4; sheet++) {
            DUE.is("1: pour", x.pour(sheet), KnitStreets.NOTHING);
        }
        for (int slot = 0; slot < 5; slot++) {
            DUE.is("1: ask", x.ask(slot, 0), KnitStreets.NOTHING);
        }
        DUE.is("1: no image", x.back(), KnitStreets.NO);
        DUE.is("1: no text", x.why(0), KnitStreets.NONE);
        DUE.is("1: no course", x.told(0, 0), KnitStreets.BAD);
    }

    private static void promise2() {
        KnitStreets x = new KnitStreets();
        int[][] bad = {{-1, 1}, {6, 1}, {0, 0}, {0, 10}, {0, -1}, {Integer.MIN_VALUE, 5}, {5, Integer.MAX_VALUE}};
        for (int[] b : bad) {
            DUE.is("2: knit(" + b[0] + ", " + b[1] + ")", x.knit(b[0], b[1]), KnitStreets.BAD);
        }
        DUE.is("2: nothing came", x.count(0), 0);
        for (int i = 0; i < 12; i++) {
            DUE.is("2: knit", x.knit(i % 6, 1 + i % 9), i);
            DUE.is("2: kind", x.told(i, 0), i % 6);
            DUE.is("2: gauge", x.told(i, 1), 1 + i % 9);
            DUE.is("2: wear", x.told(i, 2), 0);
            DUE.is("2: lost", x.told(i, 3), 0);
        }
        DUE.is("2: the thirteenth", x.knit(0, 1), KnitStreets.FULL);
        DUE.is("2: BAD stands ahead of FULL", x.knit(6, 1), KnitStreets.BAD);
        DUE.is("2: twelve", x.count(0), 12);
        DUE.is("2: no draws", x.count(8), 1);
    }

    private static void promise3Numbers() {
        KnitStreets x = new KnitStreets();
        int[] bears = {10, 10, 10, 15, 20, 10};
        int[][] worth = {{1, 9}, {5, 13}, {49, 41}, {10, 26}, {43, 35}, {7, 7}};
        for (int kind = 0; kind < 6; kind++) {
            x.knit(kind, 1);
        }
        for (int kind = 0; kind < 6; kind++) {
            DUE.is("3: bears of " + kind, x.told(kind, 6), bears[kind]);
            DUE.is("3: worth of " + kind, x.told(kind, 7), worth[kind][0]);
        }
        for (int kind = 0; kind < 6; kind++) {
            x.set(kind, 1, 9);
        }
        int[] thickBears = {90, 90, 90, 95, 180, 90};
        for (int kind = 0; kind < 6; kind++) {
            DUE.is("3: bears thick of " + kind, x.told(kind, 6), thickBears[kind]);
            DUE.is("3: worth thick of " + kind, x.told(kind, 7), worth[kind][1]);
        }
        DUE.is("3: what", x.told(0, 8), KnitStreets.BAD);
        DUE.is("3: what", x.told(0, -1), KnitStreets.BAD);
        DUE.is("3: course", x.told(6, 0), KnitStreets.BAD);
        DUE.is("3: course", x.told(-1, 0), KnitStreets.BAD);
        DUE.is("3: course", x.told(Integer.MAX_VALUE, 3), KnitStreets.BAD);
    }

    private static int holdsOver(int kind, int lostBelow, int lost) {
        KnitStreets x = new KnitStreets();
        x.knit(PLAIN, 1);
        x.knit(kind, 1);
        for (int loop = 0; loop < 8; loop++) {
            if ((lostBelow >> loop & 1) != 0) {
                x.drops(0, loop);
            }
            if ((lost >> loop & 1) != 0) {
                x.drops(1, loop);
            }
        }
        return x.told(1, 4);
    }

    private static void promise3Holds() {
        DUE.is("3: plain hangs on its own", holdsOver(PLAIN, 0b00000100, 0), 0b11111011);
        DUE.is("3: rib as plain", holdsOver(RIB, 0b00000100, 0), 0b11111011);
        DUE.is("3: cable crosses", holdsOver(CABLE, 0b00000100, 0), 0b11110111);
        DUE.is("3: cable crosses back", holdsOver(CABLE, 0b10000001, 0), 0b10111101);
        DUE.is("3: lace hangs on two", holdsOver(LACE, 0b00000100, 0), 0b11111001);
        DUE.is("3: lace goes round", holdsOver(LACE, 0b00000001, 0), 0b01111110);
        DUE.is("3: moss as lace", holdsOver(MOSS, 0b10000000, 0), 0b00111111);
        DUE.is("3: darn hangs on nothing", holdsOver(DARN, 0b11111111, 0b00010000), 0b11101111);
        DUE.is("3: lost", holdsOver(CABLE, 0b00000100, 0b01000001), 0b10110110);
        KnitStreets x = new KnitStreets();
        x.knit(LACE, 3);
        DUE.is("3: what was cast on holds", x.told(0, 4), 255);
        x.drops(0, 7);
        DUE.is("3: lost as a set", x.told(0, 3), 128);
        DUE.is("3: holds", x.told(0, 4), 127);
        x.knit(CABLE, 3);
        x.knit(DARN, 3);
        DUE.is("3: the lowest holds", x.told(0, 4), 127);
        DUE.is("3: the one on it", x.told(1, 4), 0b10111111);
        DUE.is("3: the highest", x.told(2, 4), 255);
    }

    private static void promise3Wears() {
        KnitStreets x = new KnitStreets();
        for (int kind = 0; kind < 6; kind++) {
            x.knit(kind, 2);
        }
        wears(x, new int[] {6, 4, 12, 4, 9, 1});
        TextsTest.tell(x, "wear 1");
        wears(x, new int[] {1, 0, 2, 0, 0, 1});
        TextsTest.tell(x, "wear 0-5");
        wears(x, new int[] {0, 0, 0, 0, 0, 1});
        TextsTest.tell(x, "wear 999");
        wears(x, new int[] {99, 97, 198, 97, 195, 1});
        TextsTest.tell(x, "wear g*10+w");
        x.set(0, 1, 3);
        x.set(0, 2, 4);
        DUE.is("3: wear by a text", x.told(0, 5), 34);
    }

    private static void wears(KnitStreets x, int[] want) {
        for (int course = 0; course < want.length; course++) {
            DUE.is("3: wears of kind " + course, x.told(course, 5), want[course]);
        }
    }

    private static void promise4() {
        KnitStreets x = new KnitStreets();
        int[][] under = {{0}, {0, 1}, {0, 2}, {0, 1, 3}, {0, 2, 4}, {0, 5}};
        for (int kind = 0; kind < 6; kind++) {
            x.knit(kind, 5);
            x.set(kind, 2, 10 + kind);
        }
        for (int kind = 0; kind < 6; kind++) {
            for (int as = 0; as < 6; as++) {
                boolean is = false;
                for (int u : under[kind]) {
                    is |= u == as;
                }
                DUE.is("4: " + kind + " as " + as, x.as(kind, as), is ? 10 + kind : KnitStreets.KIND);
            }
        }
        DUE.is("4: kind", x.as(0, 6), KnitStreets.BAD);
        DUE.is("4: kind", x.as(0, -1), KnitStreets.BAD);
        DUE.is("4: course", x.as(6, 0), KnitStreets.BAD);
        DUE.is("4: course", x.as(-1, 5), KnitStreets.BAD);
    }

    private static void promise5() {
        KnitStreets x = new KnitStreets();
        x.knit(PLAIN, 4);
        x.knit(RIB, 4);
        x.set(1, 2, 33);
        x.drops(0, 2);
        DUE.is("5: was rib", x.turns(1, CABLE), RIB);
        DUE.is("5: is cable", x.told(1, 0), CABLE);
        DUE.is("5: hangs as cable", x.told(1, 4), 0b11110111);
        DUE.is("5: gauge stays", x.told(1, 1), 4);
        DUE.is("5: wear stays", x.told(1, 2), 33);
        DUE.is("5: was cable", x.turns(1, CABLE), CABLE);
        DUE.is("5: BAD", x.turns(1, 6), KnitStreets.BAD);
        DUE.is("5: BAD", x.turns(1, -1), KnitStreets.BAD);
        DUE.is("5: BAD", x.turns(2, 0), KnitStreets.BAD);
        DUE.is("5: still cable", x.told(1, 0), CABLE);
    }

    private static void promise6() {
        KnitStreets x = new KnitStreets();
        x.knit(PLAIN, 4);
        DUE.is("6: gauge", x.set(0, 1, 9), 4);
        DUE.is("6: gauge", x.set(0, 1, 1), 9);
        DUE.is("6: gauge now", x.told(0, 1), 1);
        DUE.is("6: wear", x.set(0, 2, 99), 0);
        DUE.is("6: wear above what it bears may be set", x.set(0, 2, 98), 99);
        DUE.is("6: wear now", x.told(0, 2), 98);
        DUE.is("6: wear", x.set(0, 2, 0), 98);
        DUE.is("6: wear", x.set(0, 2, 98), 0);
        int[][] bad = {{0, 1, 0}, {0, 1, 10}, {0, 2, -1}, {0, 2, 100}, {0, 0, 1}, {0, 3, 1}, {1, 1, 1}, {-1, 2, 1}};
        for (int[] b : bad) {
            DUE.is("6: set(" + b[0] + ", " + b[1] + ", " + b[2] + ")", x.set(b[0], b[1], b[2]), KnitStreets.BAD);
        }
        DUE.is("6: unchanged", x.told(0, 1) * 100 + x.told(0, 2), 198);
    }

    private static void promise7And8() {
        KnitStreets x = new KnitStreets();
        x.knit(PLAIN, 1);
        x.knit(PLAIN, 1);
        x.knit(LACE, 1);
        x.knit(DARN, 1);
        DUE.is("7: with all that hang on it", x.drops(0, 3), 4);
        DUE.is("7: it was", x.drops(0, 3), KnitStreets.NO);
        DUE.is("7: hangs on one that is lost", x.drops(1, 3), 0);
        DUE.is("7: lost, not holding", x.town(4), 2);
        DUE.is("7: runs stay", x.town(1), 0);
        DUE.is("8: still hangs on one that is lost", x.hooks(0, 3), 1);
        DUE.is("8: it was not", x.hooks(0, 3), KnitStreets.NO);
        DUE.is("8: the rest", x.hooks(1, 3), 3);
        DUE.is("8: mended stays", x.town(2), 0);
        DUE.is("7: darn on the top", x.drops(3, 7), 1);
        int[][] bad = {{4, 0}, {-1, 0}, {0, -1}, {0, 8}, {Integer.MAX_VALUE, 0}, {0, 32}};
        for (int[] b : bad) {
            DUE.is("7: drops(" + b[0] + ", " + b[1] + ")", x.drops(b[0], b[1]), KnitStreets.BAD);
            DUE.is("8: hooks(" + b[0] + ", " + b[1] + ")", x.hooks(b[0], b[1]), KnitStreets.BAD);
        }
        DUE.is("7: one is lost", x.town(4), 1);
    }

    private static void promise9() {
        KnitStreets x = new KnitStreets();
        int[] was = {30, 20, 20};
        for (int what = 0; what < 3; what++) {
            DUE.is("9: was", x.rule(what, 100), was[what]);
            DUE.is("9: was", x.rule(what, 0), 100);
            DUE.is("9: was", x.rule(what, 40 + what), 0);
            DUE.is("9: now", x.count(2 + what), 40 + what);
            DUE.is("9: above", x.rule(what, 101), KnitStreets.BAD);
            DUE.is("9: below", x.rule(what, -1), KnitStreets.BAD);
            DUE.is("9: unchanged", x.count(2 + what), 40 + what);
        }
        DUE.is("9: what", x.rule(3, 1), KnitStreets.BAD);
        DUE.is("9: what", x.rule(-1, 1), KnitStreets.BAD);
    }

    private static void promise10() {
        KnitStreets x = new KnitStreets();
        Draws draws = new Draws(-77);
        x.seed(-77);
        DUE.is("10: BAD", x.deal(0), KnitStreets.BAD);
        DUE.is("10: BAD", x.deal(13), KnitStreets.BAD);
        DUE.is("10: BAD", x.deal(-1), KnitStreets.BAD);
        DUE.is("10: no draws when BAD", x.count(8), -77);
        DUE.is("10: five", x.deal(5), 5);
        DUE.is("10: seven", x.deal(12), 7);
        for (int course = 0; course < 12; course++) {
            DUE.is("10: kind", x.told(course, 0), draws.rest(6));
            DUE.is("10: gauge", x.told(course, 1), 1 + draws.rest(9));
            DUE.is("10: lost", x.told(course, 3), draws.next() & draws.next() & 255);
            DUE.is("10: wear", x.told(course, 2), 0);
        }
        DUE.is("10: no draws for others", x.count(8), draws.z);
        DUE.is("10: no room", x.deal(3), 0);
        DUE.is("10: no draws", x.count(8), draws.z);
        DUE.is("10: no runs", x.town(1), 0);
    }

    private static void promise11() {
        KnitStreets x = new KnitStreets();
        DUE.is("11: was", x.seed(Integer.MIN_VALUE), 1);
        DUE.is("11: was", x.seed(0), Integer.MIN_VALUE);
        DUE.is("11: z", x.count(8), 0);
        x.knit(PLAIN, 1);
        x.deal(1);
        Draws draws = new Draws(0);
        DUE.is("11: draws go on from z", x.told(1, 0), draws.rest(6));
    }
}
