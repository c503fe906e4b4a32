/** Promises 40 to 44: rows that wait, images, counts. */
public final class RowsTest {
    private static final Due DUE = new Due("RowsTest");

    public static void main(String[] args) {
        promise40();
        promise41();
        promise41Places();
        promise41ByTheImage();
        promise41LastNight();
        promise42And43();
        promise43Texts();
        promise43Anew();
        promise43Stays();
        promise44();
        DUE.end();
    }

    private static void promise40() {
        KnitStreets x = new KnitStreets();
        for (int i = 1; i <= 60; i++) {
            DUE.is("40: tell", x.tell(-i), i);
        }
        DUE.is("40: FULL", x.tell(0), KnitStreets.FULL);
        DUE.is("40: 60 wait", x.count(6), 60);
        DUE.is("40: check uses them up", x.check(1), KnitStreets.NO);
        DUE.is("40: none waits", x.count(6), 0);
        DUE.is("40: the first again", x.tell(0), 1);
    }

    private static KnitStreets kept() {
        KnitStreets x = new KnitStreets();
        x.seed(12);
        x.deal(4);
        x.rule(1, 60);
        x.nights(5);
        x.keep();
        return x;
    }

    /** What the NIGHTS of the image are, told by living through them. */
    private static int[] lived(KnitStreets x, int n) {
        int[] told = new int[2 * n];
        x.keep();
        for (int i = 0; i < n; i++) {
            x.nights(1);
            told[2 * i] = x.town(1);
            told[2 * i + 1] = x.town(4);
        }
        x.back();
        return told;
    }

    private static int checked(KnitStreets x, int n, int[] told, int many) {
        for (int i = 0; i < many; i++) {
            x.tell(i < told.length ? told[i] : 0);
        }
        return x.check(n);
    }

    private static void promise41() {
        KnitStreets x = kept();
        DUE.so("41: runs are not 0 to begin with", x.town(1) > 0);
        int[] told = lived(x, 30);
        for (int n : new int[] {1, 2, 17, 30}) {
            DUE.is("41: " + n + " nights", checked(x, n, told, 2 * n), 0);
            DUE.is("41: none waits", x.count(6), 0);
        }
        x.tell(1);
        DUE.is("41: 0", x.check(0), KnitStreets.BAD);
        DUE.is("41: none waits, whatever is answered", x.count(6), 0);
        x.tell(1);
        DUE.is("41: 31", x.check(31), KnitStreets.BAD);
        DUE.is("41: none waits", x.count(6), 0);
        DUE.is("41: below", x.check(-1), KnitStreets.BAD);
        KnitStreets bare = new KnitStreets();
        DUE.is("41: BAD stands ahead of NO", bare.check(0), KnitStreets.BAD);
        DUE.is("41: no image", bare.check(1), KnitStreets.NO);
    }

    private static void promise41Places() {
        KnitStreets x = kept();
        int[] told = lived(x, 10);
        for (int wrong = 0; wrong < 20; wrong++) {
            int[] other = told.clone();
            other[wrong]++;
            DUE.is("41: " + wrong + " is wrong", checked(x, 10, other, 20), 1 + wrong);
            DUE.is("41: " + wrong + " is missing", checked(x, 10, told, wrong), 1 + wrong);
        }
        DUE.is("41: one too many", checked(x, 10, told, 21), 21);
        DUE.is("41: more too many", checked(x, 10, told, 60), 21);
    }

    private static void promise41ByTheImage() {
        KnitStreets x = kept();
        int[] told = lived(x, 20);
        x.seed(1);
        x.nights(50);
        x.deal(12);
        x.rule(0, 0);
        x.rule(1, 0);
        x.rule(2, 100);
        TextsTest.tell(x, "wear 99");
        int z = x.count(8), night = x.count(1);
        DUE.is("41: by the image, whatever is now", checked(x, 20, told, 40), 0);
        DUE.is("41: z stays", x.count(8), z);
        DUE.is("41: the night stays", x.count(1), night);
        x.keep();
        DUE.so("41: another image", checked(x, 20, told, 40) != 0);
        DUE.is("41: with its text", checked(x, 20, lived(x, 20), 40), 0);
    }

    private static void promise41LastNight() {
        KnitStreets x = new KnitStreets();
        x.knit(0, 1);
        for (int i = 0; i < 99; i++) {
            x.nights(100);
        }
        x.nights(97);
        int[] told = lived(x, 2);
        DUE.is("41: the night", x.count(1), 9997);
        DUE.is("41: fewer", checked(x, 30, told, 4), 0);
        DUE.is("41: no more of them", checked(x, 30, told, 5), 5);
        x.nights(2);
        x.keep();
        DUE.is("41: none at all", x.check(1), 0);
        x.tell(0);
        DUE.is("41: none at all, one too many", x.check(1), 1);
    }

    private static void promise42And43() {
        KnitStreets x = new KnitStreets();
        DUE.is("43: NO", x.back(), KnitStreets.NO);
        DUE.is("42: no courses", x.keep(), 0);
        x.seed(4);
        x.deal(5);
        x.set(2, 2, 66);
        x.rule(0, 77);
        x.nights(20);
        int[] was = all(x);
        int courses = x.count(0);
        DUE.is("42: keep", x.keep(), courses);
        for (int round = 0; round < 2; round++) {
            x.nights(40);
            x.deal(3);
            x.rule(0, 1);
            x.rule(1, 2);
            x.rule(2, 3);
            x.turns(0, (x.told(0, 0) + 1) % 6);
            x.set(1, 1, 10 - x.told(1, 1));
            x.drops(0, 0);
            x.hooks(0, 0);
            x.seed(99);
            DUE.is("43: back", x.back(), courses);
            int[] now = all(x);
            for (int i = 0; i < was.length; i++) {
                DUE.is("43: " + i + " is as it was", now[i], was[i]);
            }
            DUE.is("43: as many", now.length, was.length);
        }
    }

    private static int[] all(KnitStreets x) {
        int[] all = new int[6 + 5 + 8 * x.count(0)];
        int at = 0;
        for (int what : new int[] {0, 1, 2, 3, 4, 8}) {
            all[at++] = x.count(what);
        }
        for (int what = 0; what < 5; what++) {
            all[at++] = x.town(what);
        }
        for (int course = 0; course < x.count(0); course++) {
            for (int what = 0; what < 8; what++) {
                all[at++] = x.told(course, what);
            }
        }
        return all;
    }

    private static void promise43Texts() {
        KnitStreets x = new KnitStreets();
        TextsTest.tell(x, "fee 1");
        TextsTest.tell(x, "fee 2");
        x.keep();
        for (int round = 0; round < 2; round++) {
            DUE.is("43: a text more", TextsTest.tell(x, "fee 3" + round), 2);
            TextsTest.tell(x, "fine 4");
            DUE.is("43: fee", x.fee(), 30 + round);
            x.back();
            DUE.is("43: texts", x.count(5), 2);
            DUE.is("43: fee", x.fee(), 2);
            DUE.is("43: why", x.why(1), 1);
            DUE.is("43: why", x.why(2), KnitStreets.NONE);
        }
        TextsTest.tell(x, "fine 5+6+7");
        x.keep();
        for (int i = 0; i < 11; i++) {
            TextsTest.tell(x, "fee " + i);
        }
        DUE.is("43: full", TextsTest.tell(x, "fee 0"), KnitStreets.FULL);
        x.back();
        DUE.is("43: three", x.count(5), 3);
        DUE.is("43: the third", x.textTold(2, 1), 3);
        DUE.is("43: room again", TextsTest.tell(x, "fee 0"), 3);
    }

    private static void promise43Anew() {
        KnitStreets x = new KnitStreets();
        x.keep();
        x.knit(3, 9);
        x.set(0, 2, 70);
        x.drops(0, 3);
        x.back();
        x.knit(1, 2);
        DUE.is("43: a course that comes then has no wear", x.told(0, 2), 0);
        DUE.is("43: and is whole", x.told(0, 3), 0);
    }

    private static void promise43Stays() {
        KnitStreets x = new KnitStreets();
        x.knit(1, 4);
        x.keep();
        x.sheet(0, 1, 3);
        x.lay(0, 3, 17);
        x.tell(1);
        x.feed(1, 2, 3);
        x.knit(1, 4);
        x.lay(1, 1, 1);
        DUE.is("43: back", x.back(), 1);
        DUE.is("43: sheets stay", x.mark(0, 2, 5), 1);
        DUE.is("43: slots stay", x.rest(0, 5), 2);
        DUE.is("43: a course in a slot stays", x.ask(1, 1), 8);
        DUE.is("43: numbers that wait stay", x.count(6), 1);
        DUE.is("43: the tape stays", x.count(7), 12);
    }

    private static void promise44() {
        KnitStreets x = new KnitStreets();
        x.knit(0, 1);
        x.nights(2);
        x.rule(0, 1);
        x.rule(1, 2);
        x.rule(2, 3);
        TextsTest.tell(x, "fee 1");
        x.tell(5);
        x.tell(5);
        x.feed(0, 0, 0);
        x.seed(-9);
        int[] want = {1, 2, 1, 2, 3, 1, 2, 12, -9};
        for (int what = 1; what < want.length; what++) {
            DUE.is("44: count(" + what + ")", x.count(what), want[what]);
        }
        DUE.is("44: courses", x.count(0), courses(x));
        DUE.is("44: what", x.count(9), KnitStreets.BAD);
        DUE.is("44: what", x.count(-1), KnitStreets.BAD);
    }

    private static int courses(KnitStreets x) {
        int courses = 0;
        while (x.told(courses, 0) != KnitStreets.BAD) {
            courses++;
        }
        return courses;
    }
}
