/** Promises 24 to 30: the tape, texts, what they give. */
public final class TextsTest {
    private static final Due DUE = new Due("TextsTest");

    public static void main(String[] args) {
        promise26();
        promise27();
        promise28Texts();
        promise28Faults();
        promise28OneBehindTheOther();
        promise28Depths();
        promise28Full();
        promise29();
        promise30();
        promise24();
        promise25();
        values();
        DUE.end();
    }

    /** Feeds the bytes of a text to the tape and trims it. */
    static void feed(KnitStreets x, String text) {
        for (int at = 0; at < text.length(); at += 12) {
            x.feed(four(text, at), four(text, at + 4), four(text, at + 8));
        }
        x.trim(text.length());
    }

    private static int four(String text, int at) {
        int four = 0;
        for (int i = at; i < at + 4; i++) {
            four = four << 8 | (i < text.length() ? text.charAt(i) : 0);
        }
        return four;
    }

    static int tell(KnitStreets x, String text) {
        feed(x, text);
        return x.text();
    }

    private static void promise26() {
        KnitStreets x = new KnitStreets();
        for (int i = 1; i <= 8; i++) {
            DUE.is("26: feed", x.feed(i, -i, 0), 12 * i);
            DUE.is("26: bytes", x.count(7), 12 * i);
        }
        DUE.is("26: FULL", x.feed(0, 0, 0), KnitStreets.FULL);
        DUE.is("26: 96", x.count(7), 96);
        x.trim(85);
        DUE.is("26: 85 and 12 are too many", x.feed(0, 0, 0), KnitStreets.FULL);
        x.trim(84);
        DUE.is("26: 84 and 12", x.feed(0, 0, 0), 96);
        x = new KnitStreets();
        // "fee 1+2*(3-4" and ")" and blanks
        x.feed(0x66656520, 0x312B322A, 0x28332D34);
        x.feed(0x29202020, 0x20202020, 0x20202020);
        DUE.is("26: the highest byte first", x.text(), 0);
        DUE.is("26: as told", x.fee(), -1);
    }

    private static void promise27() {
        KnitStreets x = new KnitStreets();
        DUE.is("27: nothing", x.trim(0), 0);
        DUE.is("27: more than there are", x.trim(1), KnitStreets.BAD);
        x.feed(0, 0, 0);
        DUE.is("27: more than there are", x.trim(13), KnitStreets.BAD);
        DUE.is("27: all", x.trim(12), 12);
        DUE.is("27: some", x.trim(5), 5);
        DUE.is("27: those cut are gone", x.trim(6), KnitStreets.BAD);
        DUE.is("27: below", x.trim(-1), KnitStreets.BAD);
        DUE.is("27: five", x.count(7), 5);
    }

    private static void promise28Texts() {
        KnitStreets x = new KnitStreets();
        String[] texts = {"wear 5", "  fee   r + m  ", "fine g*w", "wear(g)", "wear!g", "wear n<5|w>3&g=2", "fee 0000",
            "fine((w))", "wear 1=(2=3)", "fee r|m&r<m+r*m/r-1", "wear !!1+!(0)", "fine 9999"};
        for (int i = 0; i < texts.length; i++) {
            DUE.is("28: '" + texts[i] + "'", tell(x, texts[i]), i);
            DUE.is("28: the tape is used up", x.count(7), 0);
        }
        DUE.is("28: texts", x.count(5), texts.length);
    }

    private static void promise28Faults() {
        fault("", 0);
        fault("   ", 3);
        fault("wear", 4);
        fault("wear  ", 6);
        fault("wears 1", 0);
        fault("  Wear 1", 2);
        fault("5", 0);
        fault("(", 0);
        fault("wear5", 4);
        fault("wearg", 0);
        fault("wear gg", 5);
        fault("wear g g", 7);
        fault("wear 5g", 6);
        fault("wear 5 5", 7);
        fault("wear 12345", 5);
        fault("wear 00001", 5);
        fault("wear 1+12345", 7);
        fault("wear r", 5);
        fault("wear m", 5);
        fault("fee g", 4);
        fault("fee n", 4);
        fault("fine n", 5);
        fault("fine r", 5);
        fault("wear 1+", 7);
        fault("wear 1 + ", 9);
        fault("wear 1++2", 7);
        fault("wear -1", 5);
        fault("wear 1<2<3", 8);
        fault("wear 1<2=3", 8);
        fault("wear 1<(2>3)=g", 12);
        fault("wear (1", 7);
        fault("wear (1))", 8);
        fault("wear ()", 6);
        fault("wear (1 2)", 8);
        fault("wear !", 6);
        fault("wear !+", 6);
        fault("wear 1!", 6);
        fault("wear 1(2)", 6);
        fault("wear 1\t", 6);
        fault("wear\0 1", 4);
        fault("wear 1\0", 6);
        fault("wear 1\u00ff", 6);
        fault("wear wear", 5);
        fault("fee 1 fee", 6);
        fault("wear 1&", 7);
        fault("wear 1<=2", 7);
        fault("wear 1||2", 7);
        fault("wear {1}", 5);
        fault("wear `", 5);
        fault("wear 1:", 6);
        fault("wear gz", 5);
        fault("wear gZ", 6);
        fault("wear g?", 6);
        fault("wear g`", 6);
        fault("wear g{", 6);
        fault("wear 1/", 7);
        fault("zwear 1", 0);
        fault("bear 1", 0);
        fault("weak 1", 0);
        fault("tee 1", 0);
        fault("few 1", 0);
        fault("line 1", 0);
        fault("find 1", 0);
        fault("fe 1", 0);
        fault("feeg", 0);
        String whole = "fee 1" + "+1".repeat(45);
        DUE.is("28: 95 bytes", tell(new KnitStreets(), whole), 0);
        fault(whole + "+", 96);
    }

    private static void fault(String text, int place) {
        KnitStreets x = new KnitStreets();
        DUE.is("28: '" + text + "'", tell(x, text), -100 - place);
        DUE.is("28: no text came of '" + text + "'", x.count(5), 0);
        DUE.is("28: the tape is used up", x.count(7), 0);
    }

    /** What stood in one text is nothing to the next. */
    private static void promise28OneBehindTheOther() {
        KnitStreets x = new KnitStreets();
        String whole = "fee 1" + "+1".repeat(45);
        for (int i = 0; i < 9; i++) {
            DUE.is("28: a fault at a word", tell(x, "wear gg"), -105);
            DUE.is("28: a text behind it", tell(x, "fee " + i), i);
            DUE.is("28: a fault at the end", tell(x, whole + "+"), -196);
            DUE.is("28: by that text", x.fee(), i);
            DUE.is("29: with one number", x.textTold(i, 1), 1);
        }
        DUE.is("28: a long one", tell(x, whole), 9);
        DUE.is("28: by that", x.fee(), 46);
        DUE.is("29: with 46 numbers", x.textTold(9, 1), 46);
    }

    private static void promise28Depths() {
        String eight = "fee " + "(".repeat(8) + "1" + ")".repeat(8);
        DUE.is("28: eight ( open", tell(new KnitStreets(), eight), 0);
        fault("fee " + "(".repeat(9) + "1" + ")".repeat(9), 12);
        DUE.is("28: nine ( not within one another", tell(new KnitStreets(), "fee (1)" + "+(1)".repeat(8)), 0);
        DUE.is("28: eight !", tell(new KnitStreets(), "fee !!!!!!!!1"), 0);
        fault("fee !!!!!!!!!1", 12);
        DUE.is("28: nine ! not within one another", tell(new KnitStreets(), "fee !1" + "+!1".repeat(8)), 0);
        String both = "!(".repeat(8);
        DUE.is("28: each by itself", tell(new KnitStreets(), "fee " + both + "1" + ")".repeat(8)), 0);
        fault("fee " + both + "!1", 20);
        fault("fee " + both + "(1", 20);
        DUE.is("28: ! is closed behind its piece", tell(new KnitStreets(), "fee !!!!!!!!(1)+!!!!!!!!(!0)"),
                -100 - 25);
        DUE.is("28: ( is closed", tell(new KnitStreets(), "fee ((((((((1))))))+((1)))"), -100 - 26);
        fault("fee !!!!(!!!!(!1))", 14);
    }

    private static void promise28Full() {
        KnitStreets x = new KnitStreets();
        for (int i = 0; i < 14; i++) {
            DUE.is("28: text", tell(x, "fee " + i), i);
        }
        DUE.is("28: FULL", tell(x, "fee 99"), KnitStreets.FULL);
        DUE.is("28: the tape is used up", x.count(7), 0);
        DUE.is("28: a FAULT stands ahead of FULL", tell(x, "fee g"), -104);
        DUE.is("28: fourteen", x.count(5), 14);
        DUE.is("28: the last counts", x.fee(), 13);
    }

    private static void promise29() {
        KnitStreets x = new KnitStreets();
        DUE.is("29: no text", x.textTold(0, 0), KnitStreets.BAD);
        tell(x, "fine g");
        tell(x, "wear 1+g*(w-n)/!22");
        tell(x, "fee r+r+1+1");
        int[][] want = {{2, 1}, {0, 5}, {1, 4}};
        for (int text = 0; text < 3; text++) {
            DUE.is("29: key", x.textTold(text, 0), want[text][0]);
            DUE.is("29: leaves", x.textTold(text, 1), want[text][1]);
        }
        DUE.is("29: what", x.textTold(0, 2), KnitStreets.BAD);
        DUE.is("29: what", x.textTold(0, -1), KnitStreets.BAD);
        DUE.is("29: text", x.textTold(3, 0), KnitStreets.BAD);
        DUE.is("29: text", x.textTold(-1, 0), KnitStreets.BAD);
    }

    private static void promise30() {
        KnitStreets x = new KnitStreets();
        for (int key = 0; key < 3; key++) {
            DUE.is("30: none", x.why(key), KnitStreets.NONE);
        }
        tell(x, "fee 1");
        tell(x, "wear 2");
        tell(x, "fee 3");
        tell(x, "wear x");
        DUE.is("30: wear", x.why(0), 1);
        KnitStreets first = new KnitStreets();
        tell(first, "fine 1");
        DUE.is("30: the first", first.why(2), 0);
        DUE.is("30: fee, told last", x.why(1), 2);
        DUE.is("30: fine", x.why(2), KnitStreets.NONE);
        DUE.is("30: key", x.why(3), KnitStreets.BAD);
        DUE.is("30: key", x.why(-1), KnitStreets.BAD);
    }

    private static void promise24() {
        KnitStreets x = new KnitStreets();
        x.knit(5, 1);
        x.rule(1, 100);
        x.rule(2, 100);
        x.nights(30);
        int runs = x.town(1), mended = x.town(2);
        DUE.so("24: some ran", runs > 1 && mended > 1 && runs != mended);
        DUE.is("24: without a text", x.fee(), runs);
        tell(x, "fee 1000*r+m");
        DUE.is("24: by a text", x.fee(), 1000 * runs + mended);
        tell(x, "fee 7");
        DUE.is("24: by the last", x.fee(), 7);
        KnitStreets bare = new KnitStreets();
        tell(bare, "fee 5+r");
        DUE.is("24: without courses", bare.fee(), 5);
    }

    private static void promise25() {
        KnitStreets x = new KnitStreets();
        DUE.is("25: no course", x.fine(0), KnitStreets.BAD);
        x.knit(0, 3);
        x.knit(0, 8);
        x.set(1, 2, 41);
        DUE.is("25: without a text", x.fine(1), 41);
        tell(x, "fine 100*g+w");
        DUE.is("25: by a text", x.fine(1), 841);
        DUE.is("25: of the other", x.fine(0), 300);
        DUE.is("25: course", x.fine(2), KnitStreets.BAD);
        DUE.is("25: course", x.fine(-1), KnitStreets.BAD);
        tell(x, "fine 0-5000");
        DUE.is("25: it is not held", x.fine(0), -5000);
    }

    private static void values() {
        value("1+2*3", 7);
        value("(1+2)*3", 9);
        value("10-4-3", 3);
        value("100/7/2", 7);
        value("7/0", 0);
        value("(0-7)/2", -3);
        value("9999*9999*9999", 9999 * 9999 * 9999);
        value("0-9999*9999*21-5*9999-1", -9999 * 9999 * 21 - 5 * 9999 - 1);
        value("1<2", 1);
        value("2<2", 0);
        value("2=2", 1);
        value("2>2", 0);
        value("3>2", 1);
        value("5&0-3", 1);
        value("5&0", 0);
        value("0|0", 0);
        value("0|9", 1);
        value("1|0&0", 1);
        value("(1|0)&0", 0);
        value("!5", 0);
        value("!0", 1);
        value("!!5", 1);
        value("!0*5", 5);
        value("!(0*5)", 1);
        value("!0+4", 5);
        value("1+1=2", 1);
        value("1=1&2", 1);
        value("3-1<1+2", 1);
        value("0007", 7);
        value("(1<2)+(2<3)", 2);
        // the least int by -1, made of 16 * 128 * 1024 * 1024
        value("(0-16*128*1024*1024)/(0-1)", Integer.MIN_VALUE);
        value("(0-16*128*1024*1024)/(0-1)<0", 1);
    }

    private static void value(String text, int want) {
        KnitStreets x = new KnitStreets();
        tell(x, "fee " + text);
        DUE.is("28: " + text, x.fee(), want);
    }
}
