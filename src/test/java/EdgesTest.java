/**
 * Edges that sentences of the document name, those of the terms ahead of the promises most of all. What a promise's own
 * test has already is not here again; src/test/EDGES.md tells where each sentence is tested.
 */
public final class EdgesTest {
    private static final int PLAIN = 0, RIB = 1, LACE = 2, CABLE = 3, MOSS = 4, DARN = 5;
    private static final int BAD = KnitStreets.BAD, NONE = KnitStreets.NONE, INDEX = KnitStreets.INDEX;
    private static final Due DUE = new Due("EdgesTest");

    public static void main(String[] args) {
        castOn();
        hangsOn();
        holdsThroughTwelve();
        plainWearIsHeld();
        wearsZeroAtLeast();
        bearsAndNoMore();
        darnBearsAndNoMore();
        elevenAndTwelveCourses();
        dealtToTheLast();
        drawsWrap();
        longWays();
        reachesItselfAlone();
        pullsAndNeedsThroughLace();
        thoughtBeyondTheLastNight();
        plansWhenNoneHolds();
        likeByNoDifference();
        likeOfCoursesThatThereAre();
        namesByKey();
        blanks();
        tapeToTheLastByte();
        trimmedBytesAreGone();
        dividesTowardsZero();
        placesToTheLast();
        copiesWholeRows();
        pouredToTheEdges();
        slotsKeepForGood();
        rowsThatWaitedAreGone();
        sixtyThatWaitAreRight();
        imageAgainAndAgain();
        DUE.end();
    }

    private static KnitStreets knitted(int gauge, int... kinds) {
        KnitStreets x = new KnitStreets();
        for (int kind : kinds) {
            x.knit(kind, gauge);
        }
        return x;
    }

    /** Neither knits nor moths nor mends: by walks alone a night changes COURSES. */
    private static KnitStreets still(int gauge, int... kinds) {
        KnitStreets x = knitted(gauge, kinds);
        for (int what = 0; what < 3; what++) {
            x.rule(what, 0);
        }
        return x;
    }

    /** On what was cast on the loops of course 0 always hold, of whatever kind it is. */
    private static void castOn() {
        for (int kind = 0; kind < 6; kind++) {
            KnitStreets x = knitted(1, kind);
            DUE.is("terms 1: all of course 0 hold, kind " + kind, x.told(0, 4), 255);
            for (int loop = 0; loop < 8; loop++) {
                DUE.is("terms 1: of course 0 one alone goes", x.drops(0, loop), 1);
                DUE.is("terms 1: the others hold", x.told(0, 4), 255 ^ 1 << loop);
                DUE.is("terms 3: needs of course 0", x.needs(0, loop), 1);
                DUE.is("terms 1: and comes back alone", x.hooks(0, loop), 1);
            }
        }
    }

    private static boolean hangs(int kind, int loop, int below) {
        int[] crossed = {1, 0, 3, 2, 5, 4, 7, 6}, next = {1, 2, 3, 4, 5, 6, 7, 0};
        if (kind == CABLE) {
            return crossed[loop] == below;
        }
        if (kind == LACE || kind == MOSS) {
            return loop == below || next[loop] == below;
        }
        return kind != DARN && loop == below;
    }

    /** Each loop of each kind, over each loop: it holds, steps and needs by what it hangs on. */
    private static void hangsOn() {
        for (int kind = 0; kind < 6; kind++) {
            for (int below = 0; below < 8; below++) {
                KnitStreets x = knitted(1, PLAIN, kind);
                int holding = 255;
                for (int loop = 0; loop < 8; loop++) {
                    boolean hangs = hangs(kind, loop, below);
                    holding &= hangs ? ~(1 << loop) : 255;
                    DUE.is("terms 3: a step down", x.way(1, loop, 0, below) == 1 ? 1 : 0, hangs ? 1 : 0);
                    DUE.is("terms 3: a step up", x.way(0, below, 1, loop) == 1 ? 1 : 0, hangs ? 1 : 0);
                }
                x.drops(0, below);
                DUE.is("terms 1: kind " + kind + " over a lost " + below, x.told(1, 4), holding);
                for (int loop = 0; loop < 8; loop++) {
                    DUE.is("terms 3: needs", x.needs(1, loop), hangs(kind, loop, below) ? 1 : 0);
                }
            }
        }
    }

    private static void holdsThroughTwelve() {
        KnitStreets x = knitted(1, PLAIN, RIB, PLAIN, RIB, PLAIN, RIB, PLAIN, RIB, PLAIN, RIB, PLAIN, RIB);
        DUE.is("terms 1: twelve hang on one another", x.drops(0, 7), 12);
        DUE.is("terms 1: the twelfth", x.told(11, 4), 127);
        x.turns(6, DARN);
        DUE.is("terms 1: a darn hangs on nothing", x.told(11, 4), 255);
        DUE.is("terms 1: below it they do not hold", x.told(5, 4), 127);
        DUE.is("terms 1: as many", x.town(3), 90);
    }

    private static void plainWearIsHeld() {
        String[] texts = {"0-1", "0", "1", "98", "99", "100", "9999", "0-9999", "9999*9999", "9999*9999*30", "1/0"};
        int[] plain = {0, 0, 1, 98, 99, 99, 99, 0, 99, 0, 0};
        DUE.so("terms 1: one of them wraps below 0", 9999 * 9999 * 30 < 0);
        KnitStreets x = knitted(5, PLAIN);
        DUE.is("terms 1: without a text", x.told(0, 5), 6);
        for (int i = 0; i < texts.length; i++) {
            TextsTest.tell(x, "wear " + texts[i]);
            DUE.is("terms 1: wear " + texts[i], x.told(0, 5), plain[i]);
        }
    }

    private static void wearsZeroAtLeast() {
        int[][] wears = {{0, 0, 0, 0, 0, 1}, {1, 0, 2, 0, 0, 1}, {2, 0, 4, 0, 1, 1}, {3, 1, 6, 1, 3, 1},
            {99, 97, 198, 97, 195, 1}};
        for (int[] want : wears) {
            KnitStreets x = knitted(5, PLAIN, RIB, LACE, CABLE, MOSS, DARN);
            TextsTest.tell(x, "wear " + want[0]);
            for (int kind = 0; kind < 6; kind++) {
                DUE.is("terms 1: kind " + kind + " wears by " + want[0], x.told(kind, 5), want[kind]);
            }
        }
    }

    private static int bears(int kind, int gauge) {
        return kind == CABLE ? 10 * gauge + 5 : kind == MOSS ? 20 * gauge : 10 * gauge;
    }

    /** Walked without wear: what is just borne stays, one above runs at once. */
    private static void bearsAndNoMore() {
        for (int kind = PLAIN; kind < DARN; kind++) {
            for (int gauge = 1; gauge <= 9; gauge++) {
                int bears = bears(kind, gauge);
                KnitStreets x = still(gauge, kind);
                TextsTest.tell(x, "wear 0");
                x.set(0, 2, Math.min(99, bears));
                DUE.is("terms 2: what it bears, kind " + kind, x.nights(1), 0);
                DUE.is("terms 2: stays", x.told(0, 2), Math.min(99, bears));
                if (bears < 99) {
                    x.set(0, 2, bears + 1);
                    DUE.is("terms 2: above what it bears, kind " + kind, x.nights(1), 1);
                    DUE.is("terms 2: wear is 0", x.told(0, 2), 0);
                    DUE.is("terms 2: a loop is lost", x.town(4), 1);
                }
            }
        }
    }

    private static void darnBearsAndNoMore() {
        for (int gauge = 1; gauge <= 9; gauge++) {
            KnitStreets x = still(gauge, DARN);
            x.set(0, 2, 10 * gauge - 3);
            DUE.is("terms 2: a darn, three walks to what it bears", x.nights(1), 0);
            DUE.is("terms 2: it stays", x.told(0, 2), 10 * gauge);
            x.set(0, 2, 10 * gauge - 2);
            DUE.is("terms 2: the third is above", x.nights(1), 1);
            DUE.is("terms 2: wear is 0", x.told(0, 2), 0);
        }
    }

    private static void elevenAndTwelveCourses() {
        KnitStreets x = new KnitStreets();
        x.rule(0, 100);
        x.deal(11);
        x.nights(1);
        DUE.is("terms 2: above eleven one comes", x.count(0), 12);
        DUE.is("terms 2: it is the highest", x.told(11, 0) >= 0 ? 1 : 0, 1);
        int kind = x.told(11, 0), gauge = x.told(11, 1);
        x.nights(1);
        DUE.is("terms 2: above twelve none", x.count(0), 12);
        DUE.is("terms 2: the highest is that one", x.told(11, 0) * 10 + x.told(11, 1), kind * 10 + gauge);
        DUE.is("2: nor by hand", x.knit(0, 1), KnitStreets.FULL);
        DUE.is("10: nor drawn", x.deal(1), 0);
    }

    private static void dealtToTheLast() {
        KnitStreets x = new KnitStreets();
        DUE.is("10: one", x.deal(1), 1);
        x = new KnitStreets();
        DUE.is("10: twelve", x.deal(12), 12);
        x = new KnitStreets();
        x.deal(11);
        int z = x.count(8);
        DUE.is("10: room for one of two", x.deal(2), 1);
        long own = z;
        for (int i = 0; i < 4; i++) {
            own = own * 1103515245L + 12345 & 0xFFFFFFFFL;
        }
        DUE.is("10: four draws for the one, none for the other", x.count(8), (int) own);
    }

    /** z is an int and wraps; what a draw gives is never below 0. */
    private static void drawsWrap() {
        for (int z : new int[] {0, -1, Integer.MIN_VALUE, Integer.MAX_VALUE, 1 << 30, -12345}) {
            KnitStreets x = new KnitStreets();
            x.seed(z);
            DUE.is("10: one", x.deal(1), 1);
            long own = z & 0xFFFFFFFFL;
            long[] gives = new long[4];
            for (int i = 0; i < 4; i++) {
                own = own * 1103515245L + 12345 & 0xFFFFFFFFL;
                gives[i] = own >> 8;
            }
            DUE.is("terms 2: kind from " + z, x.told(0, 0), gives[0] % 6);
            DUE.is("terms 2: gauge from " + z, x.told(0, 1), 1 + gives[1] % 9);
            DUE.is("terms 2: lost from " + z, x.told(0, 3), gives[2] & gives[3] & 255);
            DUE.is("44: z from " + z, x.count(8), (int) own);
        }
    }

    /** A comb: the columns 0, 2, 4, 6 join at the lowest course alone. */
    private static void longWays() {
        KnitStreets x = knitted(1, 0, 0, 0, 0, 0, 0, 0, 0, 0, 0, 0, 0);
        for (int loop = 1; loop < 8; loop += 2) {
            DUE.is("7: a column but its lowest", x.drops(1, loop), 11);
        }
        DUE.is("14: down, along and up", x.way(11, 0, 11, 2), 24);
        DUE.is("14: the longest", x.way(11, 0, 11, 6), 28);
        DUE.is("14: and back", x.way(11, 6, 11, 0), 28);
        DUE.is("14: to the lowest", x.way(11, 0, 0, 7), 18);
        DUE.is("15: all from an end", x.reach(11, 6), 52);
        DUE.is("15: all from the lowest", x.reach(0, 7), 52);
        x.drops(0, 1);
        DUE.is("14: cut off", x.way(11, 0, 11, 2), NONE);
        DUE.is("15: a column alone", x.reach(11, 0), 12);
        DUE.is("15: the others", x.reach(11, 6), 39);
    }

    private static void reachesItselfAlone() {
        KnitStreets x = knitted(1, DARN, DARN, DARN);
        x.drops(1, 2);
        x.drops(1, 4);
        DUE.is("15: itself, too", x.reach(1, 3), 1);
        DUE.is("14: none to the one over it", x.way(1, 3, 2, 3), NONE);
        DUE.is("14: to itself", x.way(1, 3, 1, 3), 0);
        x.drops(0, 6);
        DUE.is("15: at the edge, 7 alone: 0 is not beside it", x.reach(0, 7), 1);
    }

    /** On lace one more is pulled by each course, till the course is round: 1 and 2 .. and 8, then 8 by each. */
    private static void pullsAndNeedsThroughLace() {
        KnitStreets x = knitted(1, 2, 2, 2, 2, 2, 2, 2, 2, 2, 2, 2, 2);
        for (int loop = 0; loop < 8; loop++) {
            DUE.is("16: of all", x.pulled(0, loop), 36 + 4 * 8);
            DUE.is("16: of the highest", x.pulled(11, loop), 1);
        }
        DUE.is("17: the course", x.worst(0), 0);
        DUE.is("17: the loop", x.worst(1), 0);
        DUE.is("17: how many", x.worst(2), 68);
        for (int course = 0; course < 12; course++) {
            for (int loop = 0; loop < 8; loop++) {
                x.drops(course, loop);
            }
        }
        DUE.is("18: each once, though many hang on it", x.needs(11, 5), 68);
        DUE.is("18: of three", x.needs(2, 7), 6);
        DUE.is("13: all are lost", x.town(4), 96);
        DUE.is("13: none holds", x.town(3), 0);
        DUE.is("17: then all pull none, the first first", x.worst(0) + x.worst(1) + x.worst(2), 0);
    }

    /** At the last night none comes any more but in thought. */
    private static void thoughtBeyondTheLastNight() {
        KnitStreets x = still(1);
        for (int i = 0; i < 100; i++) {
            x.nights(100);
        }
        x.knit(PLAIN, 1);
        TextsTest.tell(x, "wear (n>9998)*20");
        DUE.is("12: no night more", x.nights(100), 0);
        DUE.is("44: the night", x.count(1), 9999);
        DUE.is("19: walked, in thought", x.behind(1, 0), 3);
        DUE.is("19: by 100 nights", x.behind(100, 0), 300);
        DUE.is("21: 60 are borne by 6", x.thick(0, 1, 0), 6);
        DUE.is("21: all hold", x.thick(0, 1, 1), 8);
        DUE.is("22: by a darn", x.becomes(0, 1, 0), DARN);
        DUE.is("22: all hold", x.becomes(0, 1, 1), 8);
        DUE.is("19: one night, three runs at most", x.behind(1, 1) >= 1 && x.behind(1, 1) <= 3 ? 1 : 0, 1);
        x.keep();
        DUE.is("41: but the nights told are bounded", x.check(30), 0);
        DUE.is("44: the night stays", x.count(1), 9999);
    }

    /** Where none holds whatever is done, the least is told, with 0. */
    private static void plansWhenNoneHolds() {
        KnitStreets x = still(9, RIB, PLAIN);
        x.set(0, 1, 8);
        for (int loop = 0; loop < 8; loop++) {
            x.drops(0, loop);
            x.drops(1, loop);
        }
        for (int course = 0; course < 2; course++) {
            for (int n = 1; n <= 60; n += 59) {
                DUE.is("21: the least gauge", x.thick(course, n, 0), 1);
                DUE.is("21: none holds", x.thick(course, n, 1), 0);
                DUE.is("22: the least kind", x.becomes(course, n, 0), PLAIN);
                DUE.is("22: none holds", x.becomes(course, n, 1), 0);
            }
        }
        DUE.is("19: none holds", x.behind(100, 3), 0);
        DUE.is("19: of the course none", x.behind(100, 5), 0);
        DUE.is("20: at once", x.gone(1, 7), 0);
        x.hooks(0, 3);
        DUE.is("21: one holds by all", x.thick(0, 1, 0), 1);
        DUE.is("21: one", x.thick(0, 1, 1), 1);
        DUE.is("22: one", x.becomes(0, 1, 1), 1);
    }

    private static void likeByNoDifference() {
        KnitStreets x = still(5, PLAIN, PLAIN, PLAIN);
        DUE.is("23: BAD stands ahead of NOTHING", x.like(0, 2), BAD);
        x.sheet(0, 0, 1);
        x.mark(0, 0, 7);
        int[][] wears = {{7, 7, 7, 0, 0}, {7, 8, 6, 0, 0}, {8, 7, 7, 1, 0}, {8, 6, 7, 2, 0}, {9, 8, 6, 1, 1}};
        for (int[] w : wears) {
            for (int course = 0; course < 3; course++) {
                x.set(course, 2, w[course]);
            }
            DUE.is("23: of several the least", x.like(0, 0), w[3]);
            DUE.is("23: together", x.like(0, 1), w[4]);
        }
        x.sheet(0, 1, 24);
        for (int place = 0; place < 24; place++) {
            x.mark(0, place, NONE);
        }
        DUE.is("23: of no numbers nothing differs", x.like(0, 1), 0);
        DUE.is("23: the least", x.like(0, 0), 0);
        x.sheet(0, 1, 24);
        x.mark(0, 23, -99999);
        DUE.so("23: the last place counts", x.like(0, 1) >= 99999);
    }

    /** COURSES that come in thought are not told of, however like they are. */
    private static void likeOfCoursesThatThereAre() {
        for (int z = 0; z < 9; z++) {
            KnitStreets x = knitted(9, DARN);
            x.seed(z);
            x.rule(0, 100);
            x.set(0, 2, 80);
            x.sheet(0, 1, 3);
            x.mark(0, 0, NONE);
            DUE.is("23: the one that there is now", x.like(0, 0), 0);
            DUE.so("23: by far", x.like(0, 1) >= 100);
            DUE.is("23: none came", x.count(0), 1);
        }
    }

    private static void namesByKey() {
        String[] keys = {"wear", "fee", "fine"}, names = {"gwn", "rm", "gw"};
        for (int key = 0; key < 3; key++) {
            for (char letter = 'a'; letter <= 'z'; letter++) {
                boolean name = names[key].indexOf(letter) >= 0;
                DUE.is("terms 4: " + letter + " of " + keys[key],
                        TextsTest.tell(new KnitStreets(), keys[key] + " " + letter),
                        name ? 0 : -101 - keys[key].length());
            }
        }
    }

    private static void blanks() {
        String words = " fee ! ( r + 12 ) * m / 3 - 4 | 5 & 6 < 7 ";
        DUE.is("terms 4: blanks between all", TextsTest.tell(new KnitStreets(), words), 0);
        DUE.is("terms 4: many", TextsTest.tell(new KnitStreets(), " ".repeat(40) + "fee" + " ".repeat(40) + "r"), 0);
        DUE.is("terms 4: none", TextsTest.tell(new KnitStreets(), "fee!(r+12)*m/3-4|5&6<7"), 0);
        DUE.is("terms 4: not within a word", TextsTest.tell(new KnitStreets(), "fe e 1"), -100);
        DUE.is("terms 4: not within a number", TextsTest.tell(new KnitStreets(), "fee 1 2"), -106);
        DUE.is("terms 4: a word alone that is none", TextsTest.tell(new KnitStreets(), "fe"), -100);
        DUE.is("terms 4: the end, behind blanks", TextsTest.tell(new KnitStreets(), "fee 1 +  "), -109);
        DUE.is("terms 4: the end, within (", TextsTest.tell(new KnitStreets(), "fee ((1) "), -109);
    }

    private static void tapeToTheLastByte() {
        String whole = "fee 10" + "+1".repeat(45);
        KnitStreets x = new KnitStreets();
        DUE.is("terms 4: it is 96 bytes long", whole.length(), 96);
        TextsTest.feed(x, whole);
        DUE.is("26: no byte more", x.feed(0, 0, 0), KnitStreets.FULL);
        DUE.is("26: it has those", x.count(7), 96);
        DUE.is("28: a text of 96 bytes", x.text(), 0);
        DUE.is("24: to its last byte", x.fee(), 55);
        DUE.is("29: numbers", x.textTold(0, 1), 46);
        DUE.is("28: the tape is empty", x.text(), -100);
        DUE.is("28: a fault at the last byte", TextsTest.tell(x, whole.substring(0, 95) + "x"), -195);
        DUE.is("28: too short by one", TextsTest.tell(x, whole.substring(0, 95)), -195);
        TextsTest.feed(x, "fee 1" + "+1".repeat(45));
        DUE.is("27: all of 95", x.trim(95), 95);
        DUE.is("27: one more than there are", x.trim(96), BAD);
        DUE.is("28: trimmed", x.text(), 1);
        x.feed(0xC0FFEE80, -1, 0x80000000);
        DUE.is("28: bytes above 127", x.text(), -100);
        DUE.is("28: bytes above 127 behind a text", TextsTest.tell(x, "fee 1\u0080"), -105);
        DUE.is("28: byte 160 is no blank", TextsTest.tell(x, "fee\u00a01"), -103);
    }

    /** Twelve bytes are fed, all behind the first n are trimmed: what text() answers. */
    private static int trimmed(KnitStreets x, String twelve, int n) {
        TextsTest.feed(x, twelve);
        x.trim(n);
        return x.text();
    }

    private static void trimmedBytesAreGone() {
        KnitStreets x = new KnitStreets();
        DUE.is("27: of a number its first digit", trimmed(x, "fee 12345678", 5), 0);
        DUE.is("24: that digit", x.fee(), 1);
        DUE.is("27: of a number four digits", trimmed(x, "fee 12345678", 8), 1);
        DUE.is("24: these four", x.fee(), 1234);
        DUE.is("27: of a number five digits", trimmed(x, "fee 12345678", 9), -104);
        DUE.is("27: of a word one letter", trimmed(x, "fee rrrrrrrr", 5), 2);
        DUE.is("27: of a word the KEY, then the end", trimmed(x, "feesfeesfees", 3), -103);
        DUE.is("27: blanks that are gone are not the end", trimmed(x, "fee         ", 5), -105);
        DUE.is("27: none of them stands", trimmed(x, "fee         ", 3), -103);
        DUE.is("27: all are gone", trimmed(x, "            ", 0), -100);
        DUE.is("27: one blank stands", trimmed(x, "            ", 1), -101);
        DUE.is("27: signs that are gone are no FAULT", trimmed(x, "fee 5+))))))", 5), 3);
        TextsTest.feed(x, "fee 99999999");
        x.trim(5);
        DUE.is("26: more come behind those that stand", x.feed(0x2B312020, 0x20202020, 0x20202020), 17);
        DUE.is("28: they are one text", x.text(), 4);
        DUE.is("24: 9 and 1", x.fee(), 10);
    }

    private static void dividesTowardsZero() {
        String[] sums = {"7/2", "(0-7)/2", "7/(0-2)", "(0-7)/(0-2)", "1/2", "(0-1)/2", "0/0", "(0-5)/0", "0/5",
            "1/0+3", "1-1/2"};
        int[] want = {3, -3, -3, 3, 0, 0, 0, 0, 0, 3, 1};
        for (int i = 0; i < sums.length; i++) {
            KnitStreets x = new KnitStreets();
            TextsTest.tell(x, "fee " + sums[i]);
            DUE.is("terms: " + sums[i], x.fee(), want[i]);
        }
    }

    private static int item(KnitStreets x, int sheet, int place) {
        x.lay(4, 2, sheet);
        return x.item(4, place);
    }

    private static void placesToTheLast() {
        for (int sort = 0; sort < 2; sort++) {
            for (int sheet = 0; sheet < 4; sheet++) {
                for (int n : new int[] {0, 1, 24}) {
                    KnitStreets x = new KnitStreets();
                    DUE.is("31: places", x.sheet(sheet, sort, n), n);
                    DUE.is("32: the last", x.mark(sheet, n - 1, 9), n == 0 ? INDEX : 1);
                    DUE.is("32: behind the last", x.mark(sheet, n, 9), INDEX);
                    DUE.is("32: ahead of the first", x.mark(sheet, -1, 9), INDEX);
                    DUE.is("38: the last", item(x, sheet, n - 1), n == 0 ? INDEX : 9);
                    DUE.is("38: behind the last", item(x, sheet, n), INDEX);
                    DUE.is("38: ahead of the first", item(x, sheet, -1), INDEX);
                    DUE.is("31: 25", x.sheet(sheet, sort, 25), BAD);
                    DUE.is("31: below 0", x.sheet(sheet, sort, -1), KnitStreets.SIZE);
                    DUE.is("31: it is what it was", item(x, sheet, n - 1), n == 0 ? INDEX : 9);
                    x.sheet(sheet, sort, n);
                    DUE.is("31: anew, all 0", item(x, sheet, n - 1), n == 0 ? INDEX : 0);
                }
            }
        }
    }

    private static void copiesWholeRows() {
        KnitStreets x = new KnitStreets();
        x.sheet(0, 0, 24);
        x.sheet(1, 0, 24);
        for (int place = 0; place < 24; place++) {
            x.mark(0, place, 100 + place);
        }
        DUE.is("35: a whole row", x.copy(0, 0, 1, 0, 24), 24);
        DUE.is("35: its first", item(x, 1, 0), 100);
        DUE.is("35: its last", item(x, 1, 23), 123);
        DUE.is("35: one too many", x.copy(0, 0, 1, 0, 25), INDEX);
        DUE.is("35: onto itself", x.copy(0, 0, 0, 0, 24), 24);
        DUE.is("35: one on, all but one", x.copy(0, 0, 0, 1, 23), 23);
        DUE.is("35: the first stays", item(x, 0, 0), 100);
        DUE.is("35: as they were, not the first again", item(x, 0, 23), 122);
        DUE.is("35: one on, too many by one", x.copy(0, 0, 0, 1, 24), INDEX);
        DUE.is("35: refused, it changes nothing", item(x, 0, 23), 122);
        DUE.is("35: from the last, one", x.copy(1, 23, 0, 23, 1), 1);
        DUE.is("35: it came", item(x, 0, 23), 123);
        x.sheet(2, 0, 0);
        DUE.is("35: none, from a row of none", x.copy(2, 0, 0, 24, 0), 0);
        DUE.is("35: one, from a row of none", x.copy(2, 0, 0, 0, 1), INDEX);
    }

    private static void pouredToTheEdges() {
        int[] marks = {-99999, -1, 0, 1, 98, 99, 100, 99999}, wears = {0, 0, 0, 1, 98, 99, 99, 99};
        KnitStreets x = knitted(9, 0, 0, 0, 0, 0, 0, 0, 0);
        x.sheet(0, 1, 8);
        for (int place = 0; place < 8; place++) {
            x.set(place, 2, 50);
            x.mark(0, place, marks[place]);
        }
        DUE.is("33: all are otherwise", x.pour(0), 8);
        for (int course = 0; course < 8; course++) {
            DUE.is("33: by " + marks[course], x.told(course, 2), wears[course]);
        }
        x.sheet(1, 0, 2);
        x.mark(1, 0, 32768);
        x.mark(1, 1, 32767);
        DUE.is("33: by the least and the most short", x.pour(1), 1);
        DUE.is("33: the least", x.told(0, 2), 0);
        DUE.is("33: the most", x.told(1, 2), 99);
        KnitStreets bare = new KnitStreets();
        bare.sheet(0, 1, 24);
        DUE.is("33: no courses", bare.pour(0), 0);
        DUE.is("34: no courses", bare.reads(0), 0);
    }

    /** What a SLOT holds stays, whatever becomes of the course, the sheet and the town. */
    private static void slotsKeepForGood() {
        KnitStreets x = new KnitStreets();
        x.keep();
        x.knit(MOSS, 9);
        x.sheet(3, 1, 24);
        x.mark(3, 23, 99999);
        x.mark(3, 22, NONE);
        x.lay(0, 1, 0);
        x.lay(1, 2, 3);
        x.lay(2, 2, 3);
        x.lay(3, 3, Integer.MIN_VALUE);
        x.turns(0, DARN);
        x.set(0, 1, 1);
        x.mark(3, 23, 1);
        x.sheet(3, 0, 2);
        x.back();
        DUE.is("36: there is no course any more", x.count(0), 0);
        DUE.is("37: the course", x.ask(0, MOSS), 35);
        DUE.is("38: the sheet", x.item(1, 23), 99999);
        DUE.is("38: its NO NUMBER", x.item(1, 22), KnitStreets.KIND);
        x.lay(1, 2, 3);
        DUE.is("38: anew", x.item(1, 2), INDEX);
        DUE.is("38: the other slot has its own", x.item(2, 23), 99999);
        DUE.is("39: the number", x.rest(3, Integer.MAX_VALUE), -1);
        DUE.is("39: by itself", x.rest(3, Integer.MIN_VALUE), 0);
        DUE.is("39: by 1", x.rest(3, 1), 0);
    }

    /** Numbers that waited once are no help to a later row that is too short. */
    private static void rowsThatWaitedAreGone() {
        KnitStreets x = still(9, PLAIN);
        x.keep();
        for (int told = 8; told >= 0; told--) {
            for (int i = 0; i < told; i++) {
                DUE.is("40: it waits", x.tell(0), i + 1);
            }
            DUE.is("41: of eight there are " + told, x.check(4), told == 8 ? 0 : 1 + told);
            DUE.is("41: none waits", x.count(6), 0);
        }
        DUE.is("41: one number alone", x.tell(0) + x.check(1), 3);
        DUE.is("41: one night", x.tell(0) + x.tell(0) + x.check(1), 3);
    }

    private static void sixtyThatWaitAreRight() {
        KnitStreets x = still(9, DARN);
        TextsTest.tell(x, "wear 0");
        x.turns(0, PLAIN);
        x.keep();
        for (int i = 0; i < 60; i++) {
            x.tell(0);
        }
        DUE.is("40: the 61st", x.tell(5), KnitStreets.FULL);
        DUE.is("41: thirty nights, the 61st is not among them", x.check(30), 0);
        for (int i = 0; i < 59; i++) {
            x.tell(0);
        }
        DUE.is("41: the last is missing", x.check(30), 60);
        for (int i = 0; i < 60; i++) {
            x.tell(i < 59 ? 0 : 1);
        }
        DUE.is("41: the last is wrong", x.check(30), 60);
        for (int i = 0; i < 60; i++) {
            x.tell(0);
        }
        DUE.is("41: two too many", x.check(29), 59);
    }

    private static void imageAgainAndAgain() {
        KnitStreets x = new KnitStreets();
        x.seed(3);
        x.deal(12);
        DUE.is("42: twelve", x.keep(), 12);
        int z = x.count(8), lost = x.town(4);
        for (int i = 0; i < 5; i++) {
            x.nights(50);
            DUE.is("43: twelve", x.back(), 12);
            DUE.is("43: z", x.count(8), z);
            DUE.is("43: lost", x.town(4), lost);
            DUE.is("43: the night", x.count(1), 0);
        }
        x.nights(1);
        z = x.count(8);
        x.keep();
        x.nights(1);
        x.back();
        DUE.is("42: the later image alone", x.count(8), z);
        DUE.is("42: of the first night", x.count(1), 1);
    }
}
