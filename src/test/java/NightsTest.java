/** Promises 12 and 13: nights, what was counted. */
public final class NightsTest {
    private static final Due DUE = new Due("NightsTest");

    public static void main(String[] args) {
        knitsWithoutCourses();
        knitsBySeeds();
        knitsWhenFull();
        chances();
        walks();
        wearsOut();
        wearIsHeldAt99();
        moths();
        mends();
        drawsWithoutCourses();
        lastNight();
        wrongInputs();
        DUE.end();
    }

    private static KnitStreets ruled(int knits, int moths, int mends) {
        KnitStreets x = new KnitStreets();
        x.rule(0, knits);
        x.rule(1, moths);
        x.rule(2, mends);
        return x;
    }

    private static void knitsWithoutCourses() {
        KnitStreets x = ruled(100, 0, 0);
        Draws draws = new Draws(1);
        draws.next();
        int kind = draws.rest(6), gauge = 1 + draws.rest(9);
        TextsTest.tell(x, "wear 0");
        DUE.is("12: nights", x.nights(1), 0);
        DUE.is("12: one came", x.count(0), 1);
        DUE.is("12: kind", x.told(0, 0), kind);
        DUE.is("12: gauge", x.told(0, 1), gauge);
        DUE.is("12: it is walked in the same night", x.town(0), 3);
        DUE.is("12: the night", x.count(1), 1);
    }

    private static void knitsBySeeds() {
        for (int z = 0; z < 20; z++) {
            KnitStreets x = ruled(100, 0, 0);
            TextsTest.tell(x, "wear 0");
            x.seed(z);
            Draws draws = new Draws(z);
            draws.next();
            x.nights(1);
            DUE.is("12: kind by " + z, x.told(0, 0), draws.rest(6));
            DUE.is("12: gauge by " + z, x.told(0, 1), 1 + draws.rest(9));
            DUE.is("12: none is lost by " + z, x.town(4), x.town(1));
        }
    }

    /** Below, not at, what the rule is: by the rest of the draw by 100. */
    private static void chances() {
        for (int z = 0; z < 40; z++) {
            int rest = new Draws(z).rest(100);
            DUE.is("12: knits at " + rest, after(z, rest, 0, 0).count(0), 0);
            DUE.is("12: knits below " + (rest + 1), after(z, rest + 1, 0, 0).count(0), 1);
            Draws draws = new Draws(z);
            draws.next();
            rest = draws.rest(100);
            // without courses these two are the second and the third draw of the night
            DUE.is("12: no moths at " + rest, after(z, 0, rest, 0).count(8), drawn(z, 3));
            KnitStreets one = ruled(0, 0, 0);
            one.knit(5, 9);
            one.drops(0, 3);
            one.seed(z);
            Draws night = new Draws(z);
            for (int i = 0; i < 7; i++) {
                night.next();
            }
            int moths = night.rest(100), mends = night.rest(100);
            one.rule(1, moths);
            one.rule(2, mends);
            one.nights(1);
            DUE.is("12: neither at " + moths + ", " + mends, one.told(0, 3), 8);
            one = ruled(0, 0, mends + 1);
            one.knit(5, 9);
            one.drops(0, 3);
            one.seed(z);
            one.nights(1);
            DUE.is("12: mends below " + (mends + 1), one.told(0, 3), 0);
            one = ruled(0, moths + 1, 0);
            one.knit(5, 9);
            one.seed(z);
            DUE.is("12: moths below " + (moths + 1), one.nights(1), 1);
        }
    }

    private static KnitStreets after(int z, int knits, int moths, int mends) {
        KnitStreets x = ruled(knits, moths, mends);
        x.seed(z);
        x.nights(1);
        return x;
    }

    private static int drawn(int z, int many) {
        Draws draws = new Draws(z);
        for (int i = 0; i < many; i++) {
            draws.next();
        }
        return draws.z;
    }

    private static void knitsWhenFull() {
        KnitStreets x = ruled(100, 0, 0);
        x.deal(12);
        int before = x.count(8);
        x.nights(1);
        Draws draws = new Draws(before);
        for (int i = 0; i < 3 + 6 + 2; i++) {
            draws.next();
        }
        DUE.is("12: two more draws, though there is no room", x.count(8), draws.z);
        DUE.is("12: twelve", x.count(0), 12);
    }

    private static void walks() {
        KnitStreets x = ruled(0, 0, 0);
        x.knit(0, 9);
        x.knit(1, 9);
        x.knit(2, 9);
        int[] wears = {6, 4, 12}, wear = new int[3];
        Draws draws = new Draws(5);
        x.seed(5);
        for (int night = 0; night < 2; night++) {
            draws.next();
            for (int i = 0; i < 3; i++) {
                int course = draws.rest(3);
                draws.next();
                wear[course] += wears[course];
            }
            draws.next();
            draws.next();
        }
        DUE.is("12: nights", x.nights(2), 0);
        for (int course = 0; course < 3; course++) {
            DUE.is("12: wear of " + course, x.told(course, 2), wear[course]);
        }
        DUE.is("13: walked", x.town(0), 6);
        DUE.is("12: z", x.count(8), draws.z);
    }

    private static void wearsOut() {
        KnitStreets x = ruled(0, 0, 0);
        x.knit(0, 1);
        x.set(0, 2, 4);
        x.seed(9);
        Draws draws = new Draws(9);
        draws.next();
        draws.next();
        int first = draws.rest(8);
        draws.next();
        int second = draws.rest(8);
        draws.next();
        int third = draws.rest(8);
        // 4 and 6 are the 10 that it bears, 16 are above, then 6
        DUE.is("12: one ran", x.nights(1), 1);
        DUE.is("12: the second walk's loop", x.told(0, 3), 1 << second);
        DUE.is("12: wear goes on from 0", x.told(0, 2), 6);
        DUE.so("12: the walks are not all one", first != second || second != third);
        x = ruled(0, 0, 0);
        x.knit(0, 1);
        x.set(0, 2, 4);
        x.seed(9);
        x.drops(0, second);
        DUE.is("12: it was lost: no run more", x.nights(1), 0);
        DUE.is("13: runs", x.town(1), 0);
        DUE.is("12: wear is 0 all the same", x.told(0, 2), 6);
    }

    private static void wearIsHeldAt99() {
        KnitStreets x = ruled(0, 0, 0);
        x.knit(4, 5);
        TextsTest.tell(x, "wear 99");
        DUE.is("12: moss of 5 bears 100", x.nights(5), 0);
        DUE.is("12: at most 99", x.told(0, 2), 99);
        x = ruled(0, 0, 0);
        x.knit(3, 9);
        x.set(0, 2, 95);
        TextsTest.tell(x, "wear 2");
        x.nights(1);
        DUE.is("12: just what it bears", x.told(0, 2), 95);
        TextsTest.tell(x, "wear 3");
        x.nights(1);
        DUE.is("12: 96, 1, 2", x.told(0, 2), 2);
        DUE.is("13: one ran", x.town(1), 1);
    }

    private static void moths() {
        KnitStreets x = ruled(0, 100, 0);
        x.knit(5, 9);
        x.knit(5, 9);
        Draws draws = new Draws(1);
        for (int i = 0; i < 1 + 6 + 1; i++) {
            draws.next();
        }
        int course = draws.rest(2), loop = draws.rest(8);
        DUE.is("12: a moth", x.nights(1), 1);
        DUE.is("12: eats", x.told(course, 3), 1 << loop);
        DUE.is("12: the other is whole", x.told(1 - course, 3), 0);
        KnitStreets all = ruled(0, 100, 0);
        all.knit(5, 9);
        for (int l = 0; l < 8; l++) {
            all.drops(0, l);
        }
        DUE.is("12: what is lost runs no more", all.nights(3), 0);
        DUE.is("13: lost", all.town(4), 8);
        DUE.is("13: none holds", all.town(3), 0);
    }

    private static void mends() {
        KnitStreets x = ruled(0, 0, 100);
        x.knit(5, 9);
        x.knit(5, 9);
        x.drops(1, 0);
        x.drops(1, 6);
        x.drops(0, 7);
        x.nights(1);
        DUE.is("12: the lowest course first", x.told(0, 3), 0);
        DUE.is("13: mended", x.town(2), 1);
        x.nights(1);
        DUE.is("12: the least", x.told(1, 3), 1 << 6);
        x.nights(2);
        DUE.is("12: all", x.town(4), 0);
        DUE.is("13: none was left", x.town(2), 3);
        DUE.is("13: hold", x.town(3), 16);
    }

    private static void drawsWithoutCourses() {
        KnitStreets x = ruled(0, 100, 100);
        DUE.is("12: nothing runs", x.nights(2), 0);
        Draws draws = new Draws(1);
        for (int i = 0; i < 6; i++) {
            draws.next();
        }
        DUE.is("12: three draws a night", x.count(8), draws.z);
        DUE.is("13: nobody walks", x.town(0), 0);
    }

    private static void lastNight() {
        KnitStreets x = new KnitStreets();
        for (int i = 0; i < 99; i++) {
            x.nights(100);
        }
        DUE.is("12: the night", x.count(1), 9900);
        x.nights(98);
        DUE.is("12: the night", x.count(1), 9998);
        int walked = x.town(0);
        x.nights(100);
        DUE.is("12: no more than up to 9999", x.count(1), 9999);
        DUE.is("12: one night's walks", x.town(0), walked + 3);
        int z = x.count(8);
        DUE.is("12: none", x.nights(1), 0);
        DUE.is("12: no draws", x.count(8), z);
    }

    private static void wrongInputs() {
        KnitStreets x = new KnitStreets();
        DUE.is("12: 0", x.nights(0), KnitStreets.BAD);
        DUE.is("12: 101", x.nights(101), KnitStreets.BAD);
        DUE.is("12: below", x.nights(-5), KnitStreets.BAD);
        DUE.is("12: no night", x.count(1), 0);
        DUE.is("13: what", x.town(5), KnitStreets.BAD);
        DUE.is("13: what", x.town(-1), KnitStreets.BAD);
    }
}
