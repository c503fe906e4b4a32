import java.util.ArrayList;
import java.util.List;
import java.util.function.Consumer;
import java.util.function.ToIntFunction;

/**
 * Each call that is refused: what it answers, and of several that could be answered the one that stands first. A refused
 * call changes nothing: everything that the face tells behind it is as on an object of which nothing was asked.
 */
public final class RefusedTest {
    private static final int BAD = KnitStreets.BAD, NO = KnitStreets.NO, FULL = KnitStreets.FULL,
            NONE = KnitStreets.NONE, NOTHING = KnitStreets.NOTHING, KIND = KnitStreets.KIND,
            INDEX = KnitStreets.INDEX, SIZE = KnitStreets.SIZE;
    private static final int LEAST = Integer.MIN_VALUE, MOST = Integer.MAX_VALUE;
    private static final Due DUE = new Due("RefusedTest");

    private final Consumer<KnitStreets> town;
    private final List<Integer> untouched;

    private RefusedTest(Consumer<KnitStreets> town) {
        this.town = town;
        untouched = all(made());
    }

    public static void main(String[] args) {
        RefusedTest some = new RefusedTest(RefusedTest::some);
        some.courses();
        some.waysAndFuture();
        some.texts();
        some.sheets();
        some.slots();
        some.rows();
        RefusedTest full = new RefusedTest(RefusedTest::full);
        full.whenFull();
        RefusedTest bare = new RefusedTest(x -> { });
        bare.whenBare();
        uses();
        DUE.end();
    }

    /** Five courses, three texts, two numbers that wait (one is right), seven bytes, an image; sheet 2 is missing, slot 3 empty. */
    private static void some(KnitStreets x) {
        for (int kind = 0; kind < 5; kind++) {
            x.knit(kind, 3 + kind);
        }
        x.drops(1, 2);
        x.rule(0, 0);
        TextsTest.tell(x, "wear g+n/9");
        x.keep();
        x.tell(x.behind(1, 1));
        x.tell(-22);
        TextsTest.tell(x, "fee 5*r-m");
        TextsTest.tell(x, "fine g*w");
        x.nights(7);
        x.turns(4, 5);
        x.drops(2, 5);
        x.sheet(0, 0, 3);
        x.mark(0, 1, -7);
        x.sheet(1, 1, 4);
        x.mark(1, 0, NONE);
        x.mark(1, 3, 99999);
        x.sheet(3, 0, 0);
        x.lay(0, 1, 3);
        x.lay(1, 2, 1);
        x.lay(2, 3, -17);
        TextsTest.feed(x, "fine 12");
    }

    /** All that can be full is; there is no image. */
    private static void full(KnitStreets x) {
        x.seed(6);
        x.deal(12);
        for (int text = 0; text < 14; text++) {
            TextsTest.tell(x, "fee " + text);
        }
        TextsTest.feed(x, "wear 1" + "+1".repeat(45));
        for (int v = 0; v < 60; v++) {
            x.tell(v);
        }
    }

    private KnitStreets made() {
        KnitStreets x = new KnitStreets();
        town.accept(x);
        return x;
    }

    /** All that the face tells of an object; what is used up by asking comes last, then what THE IMAGE has. */
    private static List<Integer> all(KnitStreets x) {
        List<Integer> all = new ArrayList<>();
        seen(x, all);
        for (int sheet = 0; sheet < 4; sheet++) {
            all.add(x.lay(4, 2, sheet));
            for (int place = 0; place < 5; place++) {
                all.add(x.item(4, place));
            }
            x.lay(4, 0, 0);
        }
        all.add(x.text());
        all.add(x.why(2));
        all.add(x.fine(0));
        all.add(x.check(30));
        all.add(x.back());
        seen(x, all);
        return all;
    }

    private static void seen(KnitStreets x, List<Integer> all) {
        for (int what = 0; what < 9; what++) {
            all.add(x.count(what));
        }
        for (int what = 0; what < 5; what++) {
            all.add(x.town(what));
        }
        for (int course = 0; course < x.count(0); course++) {
            for (int what = 0; what < 6; what++) {
                all.add(x.told(course, what));
            }
        }
        for (int key = 0; key < 3; key++) {
            all.add(x.why(key));
        }
        all.add(x.fee());
        for (int slot = 0; slot < 5; slot++) {
            all.add(x.ask(slot, 0));
            all.add(x.item(slot, 0));
            all.add(x.item(slot, 3));
            all.add(x.rest(slot, 5));
        }
    }

    private void refused(String call, ToIntFunction<KnitStreets> asked, int answer) {
        KnitStreets x = made();
        DUE.is(call, asked.applyAsInt(x), answer);
        DUE.so(call + " changes nothing", all(x).equals(untouched));
    }

    private void courses() {
        for (int no : new int[] {-1, 6, LEAST, MOST}) {
            refused("2: knit, kind " + no, x -> x.knit(no, 5), BAD);
            refused("4: as, kind " + no, x -> x.as(0, no), BAD);
            refused("5: turns, kind " + no, x -> x.turns(0, no), BAD);
        }
        for (int no : new int[] {-1, 0, 10, LEAST, MOST}) {
            refused("2: knit, gauge " + no, x -> x.knit(0, no), BAD);
            refused("6: set, gauge " + no, x -> x.set(0, 1, no), BAD);
        }
        for (int no : new int[] {-1, 100, LEAST, MOST}) {
            refused("6: set, wear " + no, x -> x.set(0, 2, no), BAD);
        }
        for (int no : new int[] {-1, 0, 3, LEAST, MOST}) {
            refused("6: set, what " + no, x -> x.set(0, no, 1), BAD);
        }
        for (int no : new int[] {-1, 8, LEAST, MOST}) {
            refused("3: told, what " + no, x -> x.told(0, no), BAD);
            refused("7: drops, loop " + no, x -> x.drops(0, no), BAD);
            refused("8: hooks, loop " + no, x -> x.hooks(0, no), BAD);
        }
        for (int no : new int[] {-1, 5, 12, LEAST, MOST}) {
            refused("3: told of " + no, x -> x.told(no, 0), BAD);
            refused("4: as of " + no, x -> x.as(no, 0), BAD);
            refused("5: turns of " + no, x -> x.turns(no, 0), BAD);
            refused("6: set of " + no, x -> x.set(no, 1, 1), BAD);
            refused("7: drops of " + no, x -> x.drops(no, 0), BAD);
            refused("8: hooks of " + no, x -> x.hooks(no, 0), BAD);
            refused("25: fine of " + no, x -> x.fine(no), BAD);
        }
        refused("4: as another kind", x -> x.as(0, 1), KIND);
        refused("4: as one under it", x -> x.as(1, 3), KIND);
        refused("4: BAD stands ahead of KIND", x -> x.as(5, 1), BAD);
        refused("7: it was", x -> x.drops(2, 5), NO);
        refused("8: it was not", x -> x.hooks(0, 5), NO);
        rules();
    }

    private void rules() {
        for (int no : new int[] {-1, 101, LEAST, MOST}) {
            for (int what = 0; what < 3; what++) {
                int w = what;
                refused("9: rule " + what + " of " + no, x -> x.rule(w, no), BAD);
            }
            refused("12: nights " + no, x -> x.nights(no), BAD);
        }
        refused("12: nights 0", x -> x.nights(0), BAD);
        for (int no : new int[] {-1, 3, LEAST, MOST}) {
            refused("9: rule, what " + no, x -> x.rule(no, 50), BAD);
            refused("30: why " + no, x -> x.why(no), BAD);
        }
        for (int no : new int[] {-1, 0, 13, LEAST, MOST}) {
            refused("10: deal " + no, x -> x.deal(no), BAD);
        }
        for (int no : new int[] {-1, 5, LEAST, MOST}) {
            refused("13: town " + no, x -> x.town(no), BAD);
        }
        for (int no : new int[] {-1, 9, LEAST, MOST}) {
            refused("44: count " + no, x -> x.count(no), BAD);
        }
    }

    private void waysAndFuture() {
        for (int no : new int[] {-1, 5, 12, LEAST, MOST}) {
            refused("14: way from " + no, x -> x.way(no, 0, 0, 0), BAD);
            refused("14: way to " + no, x -> x.way(0, 0, no, 0), BAD);
            refused("15: reach of " + no, x -> x.reach(no, 0), BAD);
            refused("16: pulled of " + no, x -> x.pulled(no, 0), BAD);
            refused("18: needs of " + no, x -> x.needs(no, 0), BAD);
            refused("20: gone of " + no, x -> x.gone(no, 0), BAD);
            refused("21: thick of " + no, x -> x.thick(no, 5, 0), BAD);
            refused("22: becomes of " + no, x -> x.becomes(no, 5, 0), BAD);
        }
        for (int no : new int[] {-1, 8, 32, LEAST, MOST}) {
            refused("14: way from loop " + no, x -> x.way(0, no, 0, 0), BAD);
            refused("14: way to loop " + no, x -> x.way(0, 0, 0, no), BAD);
            refused("15: reach of loop " + no, x -> x.reach(0, no), BAD);
            refused("16: pulled of loop " + no, x -> x.pulled(0, no), BAD);
            refused("18: needs of loop " + no, x -> x.needs(0, no), BAD);
            refused("20: gone of loop " + no, x -> x.gone(0, no), BAD);
        }
        refused("14: BAD stands ahead of NONE", x -> x.way(2, 5, 0, 8), BAD);
        refused("14: from one that is lost", x -> x.way(2, 5, 0, 0), NONE);
        refused("14: to one that is lost", x -> x.way(0, 0, 2, 5), NONE);
        for (int no : new int[] {-1, 3, LEAST, MOST}) {
            refused("17: worst " + no, x -> x.worst(no), BAD);
        }
        for (int no : new int[] {-1, 101, LEAST, MOST}) {
            refused("19: behind " + no, x -> x.behind(no, 0), BAD);
        }
        for (int no : new int[] {-1, 9, 15, 16, LEAST, MOST}) {
            refused("19: behind, what " + no, x -> x.behind(5, no), BAD);
        }
        for (int no : new int[] {-1, 0, 61, LEAST, MOST}) {
            refused("21: thick for " + no, x -> x.thick(0, no, 0), BAD);
            refused("22: becomes for " + no, x -> x.becomes(0, no, 0), BAD);
        }
        for (int no : new int[] {-1, 2, LEAST, MOST}) {
            refused("21: thick, what " + no, x -> x.thick(0, 5, no), BAD);
            refused("22: becomes, what " + no, x -> x.becomes(0, 5, no), BAD);
            refused("23: like, what " + no, x -> x.like(0, no), BAD);
            refused("23: BAD stands ahead of NOTHING", x -> x.like(2, no), BAD);
        }
        refused("23: like a missing one", x -> x.like(2, 0), NOTHING);
    }

    private void texts() {
        for (int no : new int[] {-1, 8, 96, LEAST, MOST}) {
            refused("27: trim " + no, x -> x.trim(no), BAD);
        }
        for (int no : new int[] {-1, 3, 14, LEAST, MOST}) {
            refused("29: text " + no, x -> x.textTold(no, 0), BAD);
        }
        for (int no : new int[] {-1, 2, LEAST, MOST}) {
            refused("29: what " + no, x -> x.textTold(0, no), BAD);
        }
    }

    private void sheets() {
        for (int no : new int[] {-1, 4, LEAST, MOST}) {
            refused("23: like sheet " + no, x -> x.like(no, 0), BAD);
            refused("31: sheet " + no, x -> x.sheet(no, 0, 5), BAD);
            refused("31: sheet " + no + " missing", x -> x.sheet(no, -1, 5), BAD);
            refused("31: BAD stands ahead of SIZE, sheet " + no, x -> x.sheet(no, 0, -1), BAD);
            refused("32: mark sheet " + no, x -> x.mark(no, 0, 1), BAD);
            refused("33: pour sheet " + no, x -> x.pour(no), BAD);
            refused("34: reads sheet " + no, x -> x.reads(no), BAD);
            refused("35: copy from sheet " + no, x -> x.copy(no, 0, 0, 0, 1), BAD);
            refused("35: copy to sheet " + no, x -> x.copy(0, 0, no, 0, 1), BAD);
            refused("35: BAD stands ahead of NOTHING, sheet " + no, x -> x.copy(2, 0, no, 0, 1), BAD);
        }
        for (int no : new int[] {-2, 2, LEAST, MOST}) {
            refused("31: sort " + no, x -> x.sheet(0, no, 5), BAD);
            refused("31: BAD stands ahead of SIZE, sort " + no, x -> x.sheet(0, no, -5), BAD);
        }
        for (int no : new int[] {-1, -25, LEAST}) {
            refused("31: " + no + " shorts", x -> x.sheet(0, 0, no), SIZE);
            refused("31: " + no + " floats", x -> x.sheet(2, 1, no), SIZE);
        }
        for (int no : new int[] {25, MOST}) {
            refused("31: " + no + " shorts", x -> x.sheet(0, 0, no), BAD);
            refused("31: " + no + " floats", x -> x.sheet(2, 1, no), BAD);
        }
        marks();
        copies();
    }

    private void marks() {
        refused("32: a missing one", x -> x.mark(2, 0, 1), NOTHING);
        refused("32: NOTHING stands ahead of INDEX", x -> x.mark(2, 99, NONE), NOTHING);
        for (int no : new int[] {-1, 4, LEAST, MOST}) {
            refused("32: place " + no, x -> x.mark(1, no, 1), INDEX);
            refused("32: place " + no + " of shorts", x -> x.mark(0, no, 1), INDEX);
            refused("32: INDEX stands ahead of KIND", x -> x.mark(0, no, NONE), INDEX);
            refused("32: INDEX stands ahead of BAD v", x -> x.mark(1, no, 100000), INDEX);
        }
        refused("32: of no places", x -> x.mark(3, 0, 1), INDEX);
        refused("32: NONE in shorts", x -> x.mark(0, 0, NONE), KIND);
        for (int no : new int[] {-100000, 100000, BAD, NO, FULL, NOTHING, KIND, INDEX, SIZE, LEAST, MOST}) {
            refused("32: " + no + " in floats", x -> x.mark(1, 0, no), BAD);
        }
        refused("33: pour a missing one", x -> x.pour(2), NOTHING);
        refused("34: reads a missing one", x -> x.reads(2), NOTHING);
        refused("34: of no places there is none", x -> x.reads(3), NONE);
    }

    private void copies() {
        refused("35: from a missing one", x -> x.copy(2, 0, 0, 0, 1), NOTHING);
        refused("35: to a missing one", x -> x.copy(0, 0, 2, 0, 1), NOTHING);
        refused("35: from a missing one to itself", x -> x.copy(2, 0, 2, 0, 0), NOTHING);
        refused("35: NOTHING stands ahead of KIND and INDEX", x -> x.copy(1, 99, 2, 99, 99), NOTHING);
        refused("35: shorts to floats", x -> x.copy(0, 0, 1, 0, 1), KIND);
        refused("35: floats to shorts", x -> x.copy(1, 0, 0, 0, 1), KIND);
        refused("35: KIND, though none", x -> x.copy(1, 0, 0, 0, 0), KIND);
        refused("35: KIND stands ahead of INDEX", x -> x.copy(0, 99, 1, 99, 99), KIND);
        int[][] no = {{-1, 0, 1}, {0, -1, 1}, {-1, 0, 0}, {0, -1, 0}, {4, 0, 1}, {0, 4, 1}, {5, 0, 0}, {0, 5, 0},
            {0, 0, 5}, {1, 0, 4}, {0, 1, 4}, {0, 0, -1}, {0, 0, LEAST}, {0, 0, MOST}, {MOST, 0, 1}, {0, MOST, 1},
            {1, 0, MOST}, {0, 1, MOST}, {MOST, MOST, MOST}, {LEAST, 0, 1}, {0, LEAST, 1}};
        for (int[] n : no) {
            refused("35: copy(1, " + n[0] + ", 1, " + n[1] + ", " + n[2] + ")", x -> x.copy(1, n[0], 1, n[1], n[2]),
                    INDEX);
        }
    }

    private void slots() {
        for (int no : new int[] {-1, 5, LEAST, MOST}) {
            for (int thing = 0; thing < 4; thing++) {
                int t = thing;
                refused("36: lay in slot " + no, x -> x.lay(no, t, 0), BAD);
            }
            refused("36: BAD stands ahead of NOTHING", x -> x.lay(no, 2, 2), BAD);
            refused("37: ask slot " + no, x -> x.ask(no, 0), BAD);
            refused("38: item of slot " + no, x -> x.item(no, 0), BAD);
            refused("39: rest of slot " + no, x -> x.rest(no, 1), BAD);
            refused("39: BAD stands ahead of NO", x -> x.rest(no, 0), BAD);
        }
        for (int no : new int[] {-1, 4, LEAST, MOST}) {
            refused("36: thing " + no, x -> x.lay(0, no, 0), BAD);
            refused("36: sheet " + no, x -> x.lay(0, 2, no), BAD);
        }
        for (int no : new int[] {-1, 5, 12, LEAST, MOST}) {
            refused("36: course " + no, x -> x.lay(2, 1, no), BAD);
        }
        refused("36: a missing sheet", x -> x.lay(1, 2, 2), NOTHING);
        for (int no : new int[] {-1, 6, LEAST, MOST}) {
            refused("37: kind " + no, x -> x.ask(0, no), BAD);
            refused("37: BAD stands ahead of NOTHING", x -> x.ask(3, no), BAD);
            refused("37: BAD stands ahead of KIND", x -> x.ask(2, no), BAD);
        }
        refused("37: nothing", x -> x.ask(3, 0), NOTHING);
        refused("37: a sheet", x -> x.ask(1, 0), KIND);
        refused("37: a number", x -> x.ask(2, 0), KIND);
        refused("37: not of that kind", x -> x.ask(0, 4), KIND);
        refused("38: nothing, ahead of INDEX", x -> x.item(3, -1), NOTHING);
        refused("38: a course, ahead of INDEX", x -> x.item(0, -1), KIND);
        refused("38: a number, ahead of INDEX", x -> x.item(2, 99), KIND);
        for (int no : new int[] {-1, 4, LEAST, MOST}) {
            refused("38: place " + no, x -> x.item(1, no), INDEX);
        }
        refused("38: NO NUMBER", x -> x.item(1, 0), KIND);
        refused("39: nothing, ahead of NO", x -> x.rest(3, 0), NOTHING);
        refused("39: a course, ahead of NO", x -> x.rest(0, 0), KIND);
        refused("39: a sheet, ahead of NO", x -> x.rest(1, 0), KIND);
        refused("39: by 0", x -> x.rest(2, 0), NO);
    }

    private void rows() {
        // what only looks ahead changes nothing either
        refused("19: behind", x -> x.behind(100, 2) >= 0 ? 1 : 0, 1);
        refused("20: gone", x -> x.gone(2, 5), 0);
        refused("21: thick", x -> x.thick(1, 60, 0) >= 1 ? 1 : 0, 1);
        refused("22: becomes", x -> x.becomes(1, 60, 0) >= 0 ? 1 : 0, 1);
        refused("23: like", x -> x.like(1, 0) >= 0 ? 1 : 0, 1);
        refused("16: pulled", x -> x.pulled(2, 5), 0);
        refused("15: reach of one that does not hold", x -> x.reach(2, 5), 0);
    }

    private void whenFull() {
        refused("2: a thirteenth", x -> x.knit(0, 1), FULL);
        refused("2: BAD stands ahead of FULL", x -> x.knit(0, 10), BAD);
        refused("10: no room", x -> x.deal(12), 0);
        refused("10: BAD, though no room", x -> x.deal(13), BAD);
        refused("26: 97 bytes", x -> x.feed(1, 2, 3), FULL);
        refused("40: the 61st", x -> x.tell(9), FULL);
        refused("43: no image", x -> x.back(), NO);
        refused("27: 97", x -> x.trim(97), BAD);
        refused("29: the fifteenth", x -> x.textTold(14, 0), BAD);
        refused("19: a thirteenth", x -> x.behind(0, 16), BAD);
        refused("3: a thirteenth", x -> x.told(12, 0), BAD);
    }

    private void whenBare() {
        refused("17: no courses", x -> x.worst(0), NONE);
        refused("17: BAD stands ahead of NONE", x -> x.worst(3), BAD);
        refused("14: no courses", x -> x.way(0, 0, 0, 0), BAD);
        refused("19: no courses", x -> x.behind(100, 4), BAD);
        refused("20: no courses", x -> x.gone(0, 0), BAD);
        refused("23: NOTHING stands ahead of NONE", x -> x.like(0, 0), NOTHING);
        refused("30: no text", x -> x.why(0), NONE);
        refused("36: no course", x -> x.lay(0, 1, 0), BAD);
        refused("36: no sheet", x -> x.lay(0, 2, 0), NOTHING);
        refused("43: no image", x -> x.back(), NO);
        refused("27: no byte", x -> x.trim(1), BAD);
        refused("29: no text", x -> x.textTold(0, 0), BAD);
    }

    /** The tape and the numbers that wait go, where the document tells so, though nothing else does. */
    private static void uses() {
        KnitStreets x = new KnitStreets();
        some(x);
        int z = x.count(8);
        x.feed(0x67202020, 0x20202020, 0x20202020);
        DUE.is("28: a fault, g right behind 12", x.text(), -107);
        DUE.is("28: the tape is used up", x.count(7), 0);
        DUE.is("28: no text came", x.count(5), 3);
        DUE.is("28: the one that counts stays", x.why(2), 2);
        DUE.is("40: two wait", x.count(6), 2);
        DUE.is("41: the second is wrong", x.check(1), 2);
        DUE.is("41: none waits", x.count(6), 0);
        for (int n : new int[] {LEAST, -1, 0, 31, MOST}) {
            x.tell(1);
            DUE.is("41: BAD", x.check(n), BAD);
            DUE.is("41: none waits", x.count(6), 0);
        }
        DUE.is("41: z stays", x.count(8), z);
        KnitStreets full = new KnitStreets();
        full(full);
        DUE.is("28: FULL", full.text(), FULL);
        DUE.is("28: the tape is used up", full.count(7), 0);
        DUE.is("28: fourteen", full.count(5), 14);
        DUE.is("28: the last counts", full.fee(), 13);
        DUE.is("41: NO", full.check(30), NO);
        DUE.is("41: none waits", full.count(6), 0);
        full.tell(1);
        DUE.is("41: BAD stands ahead of NO", full.check(31), BAD);
        DUE.is("41: none waits", full.count(6), 0);
    }
}
