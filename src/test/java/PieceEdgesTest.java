/** The boundary cases that the document names of THE PIECE, ODDS, what is set and read() (1 to 9). */
public final class PieceEdgesTest {
    private static final int LEAST = Integer.MIN_VALUE, GREATEST = Integer.MAX_VALUE;

    private PieceEdgesTest() {
    }

    public static void main(String[] args) {
        upToSixtyBytes();
        twoFigures();
        aByteThatBeginsNothing();
        tenLoose();
        sixCues();
        lettersOfTunes();
        strokeIsTheLast();
        ninetyNineBars();
        emptyIsWell();
        endWithoutStroke();
        behindTheStroke();
        oneTooMany();
        secondFigure();
        faultMeansNoBars();
        bytesAreBad();
        wipedAndUndone();
        barIsBad();
        barWithoutTune();
        oddsTogether();
        oddsAtTheEnds();
        otherBarsAreCountedOnce();
        settingsRange();
        recordBySheet();
        recordBySheetRefused();
        fiveHundredAndTwelveCalls();
        Check.close();
    }

    private static String times(int n, String text) {
        return text.repeat(n);
    }

    private static void upToSixtyBytes() {
        Check.says("2", "THE PIECE is a text of up to 60 bytes");
        OneTriangle x = Check.typed(times(19, "p01") + "ca");
        Check.due("59 bytes", x.count(1), 59);
        Check.due("the sixtieth", x.type('x'), 60);
        Check.due("sixty are well", x.fault(), -1);
        Check.due("their BARS", x.count(0), 21);
        Check.due("the CUE", x.bar(19, 2), 0);
        Check.due("the STROKE", x.bar(20, 0), 5);
        Check.due("the next is FULL", x.type('x'), -4);
        Check.due("still well", x.fault(), -1);
        Check.due("still so many BARS", x.count(0), 21);
        Check.due("one undone", x.undo(), 59);
        Check.due("room again", x.type(255), 60);
        Check.due("of another byte", x.fault(), 59);
    }

    private static void twoFigures() {
        Check.says("5", "p and two figures (01 to 99), so many plain BARS");
        for (int n = 1; n <= 98; n++) {
            OneTriangle x = Check.typed((n < 10 ? "p0" : "p") + n + "x");
            Check.due("BARS of " + n, x.count(0), n + 1);
            Check.due("the last plain one of " + n, x.bar(n - 1, 0), 3);
            Check.due("the STROKE behind " + n, x.bar(n, 0), 5);
        }
        Check.due("00", Check.faultOf("p00"), 2);
        Check.due("99 is well by itself, but ends", Check.faultOf("p99"), 3);
        for (int b = 0; b <= 255; b++) {
            boolean figure = b >= '0' && b <= '9';
            Check.due("first figure " + b, Check.faultOf("p" + (char) b + "1x"), figure ? -1 : 1);
            Check.due("second figure " + b, Check.faultOf("p1" + (char) b + "x"), figure ? -1 : 2);
        }
    }

    private static void aByteThatBeginsNothing() {
        Check.says("5", "the place of the first byte with which it cannot go on");
        for (int b = 0; b <= 255; b++) {
            int due = b == 'x' ? -1 : "pdwmc".indexOf(b) >= 0 ? 1 : 0;
            Check.due("byte " + b + " alone", Check.faultOf("" + (char) b), due);
            int behind = b == 'x' ? -1 : "pdwmc".indexOf(b) >= 0 ? 4 : 3;
            Check.due("byte " + b + " behind p02", Check.faultOf("p02" + (char) b), behind);
        }
        Check.due("the first of three", Check.faultOf("p03qzqx"), 3);
    }

    private static void tenLoose() {
        Check.says("5", "(these are LOOSE, ten at most)");
        for (String kind : new String[] {"d", "w", "m"}) {
            OneTriangle x = Check.typed(times(10, kind) + "x");
            Check.due("ten of " + kind, x.fault(), -1);
            Check.due("LOOSE of " + kind, x.count(2), 10);
            Check.due("eleven of " + kind, Check.faultOf(times(11, kind) + "x"), 10);
            Check.due("eleven with others, " + kind, Check.faultOf("p05dwmcadwmcbdwmd" + kind + "x"), 17);
        }
        OneTriangle y = Check.typed(times(11, "d") + "x");
        Check.due("then no LOOSE one", y.count(2), 0);
        y.undo();
        y.undo();
        y.type('x');
        Check.due("ten again", y.count(2), 10);
        Check.due("none of them", Check.typed("p09cax").count(2), 0);
    }

    private static void sixCues() {
        Check.says("5", "a CUE, a BAR with that tune (six at most)");
        OneTriangle x = Check.typed("cdcdcdcdcdcdx");
        Check.due("six of a tune", x.fault(), -1);
        Check.due("CUES", x.count(3), 6);
        Check.due("the last", x.bar(5, 2), 5);
        for (int tune = 'a'; tune <= 'd'; tune++) {
            Check.due("seven, " + tune, Check.faultOf("cacbcccdcacbc" + (char) tune + "x"), 12);
        }
        Check.due("seven, without its tune", Check.faultOf("cacbcccdcacbc"), 12);
        Check.due("seven, later", Check.faultOf("cacbcccdcacbp09dcax"), 16);
        OneTriangle y = Check.typed("cacbcccdcacbca");
        Check.due("then no CUE", y.count(3), 0);
        Check.due("none of them", Check.typed("p09dx").count(3), 0);
    }

    private static void lettersOfTunes() {
        Check.says("5", "c and a letter a to d");
        for (int b = 0; b <= 255; b++) {
            boolean tune = b >= 'a' && b <= 'd';
            OneTriangle x = Check.typed("c" + (char) b + "x");
            Check.due("FAULT with " + b, x.fault(), tune ? -1 : 1);
            Check.due("tune with " + b, x.bar(0, 1), tune ? b - 'a' : -2);
        }
    }

    private static void strokeIsTheLast() {
        Check.says("6", "x the STROKE, the last BAR");
        OneTriangle x = Check.typed("x");
        Check.due("alone", x.bar(0, 0), 5);
        Check.due("it has no tune", x.bar(0, 1), -1);
        Check.due("it is no CUE", x.bar(0, 2), -1);
        Check.due("one BAR", x.count(0), 1);
        Check.due("none behind it", x.bar(1, 0), -2);
        Check.due("behind 98", Check.typed("p98x").bar(98, 0), 5);
    }

    private static void ninetyNineBars() {
        Check.says("6", "BARS are 0 on, 99 at most.");
        OneTriangle x = Check.typed("dp96cax");
        Check.due("all", x.count(0), 99);
        Check.due("BAR 0", x.bar(0, 0), 0);
        Check.due("BAR 97", x.bar(97, 1), 0);
        Check.due("BAR 98", x.bar(98, 0), 5);
        Check.due("no BAR 99", x.bar(99, 0), -2);
        Check.due("no BAR -1", x.bar(-1, 0), -2);
        Check.due("a hundred", Check.faultOf("dp97cax"), 6);
        Check.due("then none", Check.typed("dp97cax").count(0), 0);
    }

    private static void emptyIsWell() {
        Check.says("5", "(an empty text is well)");
        OneTriangle x = new OneTriangle();
        Check.due("new", x.fault(), -1);
        Check.due("it has no BARS", x.count(0), 0);
        x.type('q');
        Check.due("no longer", x.fault(), 0);
        x.undo();
        Check.due("undone", x.fault(), -1);
        Check.type(x, "qq");
        x.wipe();
        Check.due("wiped", x.fault(), -1);
    }

    private static void endWithoutStroke() {
        Check.says("5", "also its end, if it has no x");
        for (String text : new String[] {"d", "w", "m", "ca", "p01", "p98", "p99", "dwmcap07", times(20, "p01")}) {
            Check.due(text, Check.faultOf(text), text.length());
        }
        Check.due("within p", Check.faultOf("dp"), 2);
        Check.due("within its figures", Check.faultOf("dp0"), 3);
        Check.due("within c", Check.faultOf("dc"), 2);
    }

    private static void behindTheStroke() {
        Check.says("5", "a byte behind x");
        for (int b = 0; b <= 255; b++) {
            Check.due("byte " + b, Check.faultOf("dx" + (char) b), 2);
        }
        Check.due("the first of them", Check.faultOf("xp03x"), 1);
    }

    private static void oneTooMany() {
        Check.says("5", "the letter of a BAR that is one too many");
        for (String next : new String[] {"d", "w", "m", "ca", "x"}) {
            Check.due("behind 99: " + next, Check.faultOf("p99" + next), 3);
            Check.due("behind 98 and 1: " + next, Check.faultOf("p98d" + next), 4);
            Check.due("behind 98: " + next, Check.faultOf("p98" + next), next.equals("x") ? -1 : 3 + next.length());
        }
        Check.due("eleven LOOSE and a hundred BARS", Check.faultOf("p89" + times(10, "w") + "wx"), 13);
        Check.due("a hundred BARS before the eleventh", Check.faultOf("p90" + times(9, "w") + "wx"), 12);
    }

    private static void secondFigure() {
        Check.says("5", "(of p its second figure)");
        Check.due("a hundred", Check.faultOf("p50p50x"), 5);
        Check.due("99, then x", Check.faultOf("p50p49x"), 6);
        Check.due("98, then x", Check.faultOf("p50p48x"), -1);
        Check.due("many", Check.faultOf("p99p99"), 5);
        Check.due("one", Check.faultOf("p99p01"), 5);
        Check.due("not begun to be too many", Check.faultOf("p99p9"), 5);
        Check.due("no figure comes sooner", Check.faultOf("p99px9"), 4);
    }

    private static void faultMeansNoBars() {
        Check.says("5", "With a FAULT there are no BARS.");
        OneTriangle x = Check.typed("dwmcacbp03xx");
        x.hear(2, 0);
        x.from(1);
        x.said(9);
        x.sheet(0, 0, 4);
        int[] got = {x.count(0), x.count(2), x.count(3), x.bar(0, 0), x.bar(3, 1), x.bar(3, 2), x.likeliest(1),
            x.line(), x.write(0), x.write(1), x.few(0), x.few(16), x.anew(0), x.prime(0), x.prime(1), x.blame(),
            x.night(5, 0), x.night(5, 99), x.tell(0)};
        int[] due = {0, 0, 0, -2, -2, -2, -3, -1, -3, -2, -3, -3, -2, -3, -3, -1, 0, 99, 0};
        for (int i = 0; i < due.length; i++) {
            Check.due("answer " + i, got[i], due[i]);
        }
        for (int what = 0; what <= 1; what++) {
            Check.due("where()", x.where(1, 0, what), Check.BAD);
            Check.due("strike()", x.strike(1, what), Check.NOT);
            Check.due("slips()", x.slips(0, 0, what), Check.BAD);
            Check.due("safe()", x.safe(1, what), Check.NOT);
            Check.due("evening()", x.evening(0, what), Check.NOT);
        }
        Check.due("the bytes stay", x.count(1), 12);
        x.undo();
        Check.due("without it there are BARS", x.count(0), 9);
        Check.due("and LOOSE ones", x.count(2), 3);
        Check.due("and CUES", x.count(3), 2);
        Check.due("and BLAME", x.blame(), 0);
    }

    private static void bytesAreBad() {
        Check.says("2", "A byte (0 to 255) comes behind THE PIECE: how many. BAD; FULL.");
        OneTriangle x = new OneTriangle();
        for (int bad : new int[] {-1, 256, -256, LEAST, GREATEST, 'x' + 256}) {
            Check.due("byte " + bad, x.type(bad), -2);
        }
        Check.due("none came", x.count(1), 0);
        Check.due("0", x.type(0), 1);
        Check.due("255", x.type(255), 2);
        for (int i = 2; i < 60; i++) {
            x.type('d');
        }
        Check.due("FULL", x.type(0), -4);
        Check.due("BAD is told first", x.type(-1), -2);
        Check.due("sixty", x.count(1), 60);
    }

    private static void wipedAndUndone() {
        Check.says("3", "It is empty: how many bytes it had.");
        OneTriangle x = new OneTriangle();
        Check.due("an empty one", x.wipe(), 0);
        Check.type(x, times(60, "q"));
        Check.due("a full one", x.wipe(), 60);
        Check.due("twice", x.wipe(), 0);
        Check.due("room again", x.type('x'), 1);
        Check.says("4", "Its last byte is undone: how many are left. NOT: it is empty.");
        Check.due("one", x.undo(), 0);
        Check.due("empty", x.undo(), -3);
        Check.type(x, times(60, "d"));
        for (int left = 59; left >= 0; left--) {
            Check.due("left", x.undo(), left);
        }
        Check.due("empty again", x.undo(), -3);
    }

    private static void barIsBad() {
        Check.says("6", "Of a BAR: its kind");
        OneTriangle x = Check.typed("cdx");
        for (int bad : new int[] {-1, 2, 99, LEAST, GREATEST}) {
            for (int what = 0; what <= 2; what++) {
                Check.due("BAR " + bad, x.bar(bad, what), -2);
            }
        }
        for (int bad : new int[] {-1, 3, LEAST, GREATEST}) {
            Check.due("what " + bad, x.bar(0, bad), -2);
        }
        Check.due("none in an empty text", new OneTriangle().bar(0, 0), -2);
    }

    private static void barWithoutTune() {
        Check.says("6", "its tune (1; NONE), which CUE it is (2; NONE). BAD.");
        OneTriangle x = Check.typed("dwmp02cdx");
        for (int bar = 0; bar <= 6; bar++) {
            Check.due("tune of BAR " + bar, x.bar(bar, 1), bar == 5 ? 3 : -1);
            Check.due("CUE of BAR " + bar, x.bar(bar, 2), bar == 5 ? 0 : -1);
        }
        Check.due("of no BAR, its tune", x.bar(7, 1), -2);
        Check.due("of no BAR, its CUE", x.bar(7, 2), -2);
        x.wipe();
        Check.type(x, "cacbcccdcacbx");
        for (int bar = 0; bar <= 5; bar++) {
            Check.due("of six, tune " + bar, x.bar(bar, 1), bar % 4);
            Check.due("of six, CUE " + bar, x.bar(bar, 2), bar);
        }
    }

    private static void oddsTogether() {
        Check.says("7", "(together 16 at most; at first 2 and 1, 1 and 3, 3 and 2)");
        int[] first = {33, 19, 50};
        for (int kind = 0; kind <= 2; kind++) {
            for (int missed = -1; missed <= 17; missed++) {
                for (int doubled = -1; doubled <= 17; doubled++) {
                    boolean may = missed >= 0 && doubled >= 0 && missed + doubled <= 16;
                    OneTriangle x = new OneTriangle();
                    String told = kind + ", " + missed + ", " + doubled;
                    Check.due(told, x.odds(kind, missed, doubled), may ? first[kind] : -2);
                    Check.due("behind " + told, x.odds(kind, 0, 0), may ? 16 * missed + doubled : first[kind]);
                    Check.due("another kind stays", x.odds((kind + 1) % 3, 0, 0), first[(kind + 1) % 3]);
                }
            }
        }
        OneTriangle x = new OneTriangle();
        for (int bad : new int[] {-1, 3, LEAST, GREATEST}) {
            Check.due("kind " + bad, x.odds(bad, 0, 0), -2);
            Check.due("MISSED " + bad, x.odds(0, bad == 3 ? 17 : bad, 0), -2);
            Check.due("DOUBLED " + bad, x.odds(0, 0, bad == 3 ? 17 : bad), -2);
        }
        Check.due("a sum that wraps", x.odds(0, GREATEST, GREATEST), -2);
        Check.due("a sum that wraps to 16", x.odds(0, GREATEST, LEAST + 17), -2);
    }

    private static void oddsAtTheEnds() {
        Check.says("7", "in a BAR that is MISSED none, in one that is DOUBLED two, else one");
        OneTriangle x = Check.typed("dwmcap01x");
        for (int kind = 0; kind <= 2; kind++) {
            x.odds(kind, 16, 0);
        }
        Check.fraction("all MISSED, 1", x.where(1, 3, 0), x.where(1, 3, 1), 1, 1);
        Check.fraction("all MISSED, the STROKE", x.where(3, 5, 0), x.where(3, 5, 1), 1, 1);
        Check.due("all MISSED, no more", x.where(4, 5, 0), Check.NOT);
        for (int kind = 0; kind <= 2; kind++) {
            x.odds(kind, 0, 16);
        }
        for (int number = 1; number <= 6; number++) {
            Check.due("all DOUBLED, " + number, x.likeliest(number), (number - 1) / 2);
        }
        Check.fraction("all DOUBLED, the STROKE", x.where(9, 5, 0), x.where(9, 5, 1), 1, 1);
        Check.due("all DOUBLED, no more", x.where(10, 5, 0), Check.NOT);
        for (int kind = 0; kind <= 2; kind++) {
            x.odds(kind, 0, 0);
        }
        for (int number = 1; number <= 6; number++) {
            Check.fraction("all ONCE, " + number, x.where(number, number - 1, 0), x.where(number, number - 1, 1), 1, 1);
        }
        Check.due("all ONCE, no more", x.where(7, 5, 0), Check.NOT);
    }

    private static void otherBarsAreCountedOnce() {
        Check.says("7", "else counted ONCE; all other BARS are.");
        for (int missed = 0; missed <= 16; missed += 16) {
            OneTriangle x = Check.typed("p02cacbx");
            for (int kind = 0; kind <= 2; kind++) {
                x.odds(kind, missed, 16 - missed);
            }
            for (int number = 1; number <= 5; number++) {
                Check.due("number " + number, x.likeliest(number), number - 1);
                Check.due("surely " + number, x.where(number, number - 1, 1), 1);
            }
            Check.due("no more", x.likeliest(6), -3);
            Check.due("no SLIP", x.slips(4, 0, 0), 1);
            Check.due("no SLIP in a night", x.night(1, 99), 99);
        }
    }

    private static void settingsRange() {
        Check.says("8", "what it was. BAD.");
        int[] first = {14, 2, 1, 13, 20, 30, 12, 1, 1};
        int[] most = {16, 16, 16, 16, 99, 99, 16, 4, 4};
        for (int what = 0; what <= 8; what++) {
            for (int v = -1; v <= 101; v++) {
                OneTriangle x = new OneTriangle();
                boolean may = v >= 0 && v <= most[what];
                Check.due(what + " becomes " + v, x.set(what, v), may ? first[what] : -2);
                Check.due(what + " behind " + v, x.set(what, 0), may ? v : first[what]);
            }
            OneTriangle y = new OneTriangle();
            Check.due("least int", y.set(what, LEAST), -2);
            Check.due("greatest int", y.set(what, GREATEST), -2);
            Check.due("at first", y.set(what, 0), first[what]);
        }
        OneTriangle z = new OneTriangle();
        for (int bad : new int[] {-1, 9, LEAST, GREATEST}) {
            Check.due("no such thing, " + bad, z.set(bad, 0), -2);
        }
        z.set(0, 17);
        Check.due("KNOWN is as it was", z.count(7), 14);
    }

    private static void recordBySheet() {
        Check.says("9", "item by item, as long as each may be, 20 at most");
        for (int n = 0; n <= 48; n++) {
            OneTriangle x = new OneTriangle();
            x.sheet(3, 1, n);
            for (int i = 0; i < n; i++) {
                x.put(3, 1, i, i + 1);
            }
            Check.due(n + " items", x.read(3), Math.min(n, 20));
            Check.due(n + " items, how many there are", x.count(6), Math.min(n, 20));
            Check.due(n + " items, all right", x.wrong(1), 0);
        }
        for (int bad : new int[] {0, -1, 111, LEAST, GREATEST, 256 + 5}) {
            OneTriangle x = new OneTriangle();
            x.said(50);
            x.sheet(0, 2, 3);
            x.put(0, 2, 0, 1);
            x.put(0, 2, 1, bad);
            x.put(0, 2, 2, 2);
            Check.due("up to " + bad, x.read(0), 1);
            x.put(0, 2, 0, bad);
            Check.due("none ahead of " + bad, x.read(0), 0);
            Check.due("what was there is forgotten, " + bad, x.count(6), 0);
        }
        OneTriangle y = new OneTriangle();
        y.sheet(0, 0, 21);
        for (int i = 0; i < 20; i++) {
            y.put(0, 0, i, 110);
        }
        Check.due("one that may not be, behind twenty", y.read(0), 20);
        Check.due("then it is FULL", y.said(1), -4);
    }

    private static void recordBySheetRefused() {
        Check.says("9", "how many (what was there is forgotten). BAD; NULL.");
        OneTriangle x = new OneTriangle();
        x.said(1);
        x.said(2);
        for (int bad : new int[] {-1, 4, LEAST, GREATEST}) {
            Check.due("SHEET " + bad, x.read(bad), -2);
        }
        Check.due("no FINDING", x.count(8), 0);
        for (int s = 0; s < 4; s++) {
            Check.due("LOST " + s, x.read(s), -11);
        }
        Check.due("NULL", x.count(8), 1);
        Check.due("nothing is forgotten", x.count(6), 2);
        x.sheet(2, 0, 0);
        Check.due("an empty SHEET", x.read(2), 0);
        Check.due("all is forgotten", x.count(6), 0);
    }

    private static void fiveHundredAndTwelveCalls() {
        Check.says("1", "An object is used for at most 512 calls after it has been made");
        OneTriangle x = new OneTriangle();
        for (int i = 0; i < 255; i++) {
            x.type('x');
            x.wipe();
        }
        Check.due("the 511th", x.type('x'), 1);
        Check.due("the 512th", x.line(), 1);
    }
}
