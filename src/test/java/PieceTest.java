/** Promises 1 to 9: the piece, the odds, what is set, the record by a sheet. */
public final class PieceTest {
    private static final String PIECE = "p03dp02cawp01cbmx";
    private static final String TEN_LOOSE = "dwmdwmdwmd";
    private static final String SIX_CUES = "cacbcccdcacb";

    private PieceTest() {
    }

    public static void main(String[] args) {
        newObject();
        type();
        wipe();
        undo();
        faultOfBytes();
        faultOfLimits();
        withFaultNoBars();
        bar();
        odds();
        set();
        setMatters();
        read();
        readRefused();
        Check.close();
    }

    private static void newObject() {
        OneTriangle x = new OneTriangle();
        for (int what = 0; what <= 6; what++) {
            Check.due("1: new, count " + what, x.count(what), 0);
        }
        Check.due("1: new, KNOWN", x.count(7), 14);
        Check.due("1: new, no FINDING", x.count(8), 0);
        Check.due("1: new, no FAULT", x.fault(), OneTriangle.NONE);
        for (int s = 0; s < 4; s++) {
            Check.due("1: new, LOST " + s, x.lose(s), -11);
        }
        Check.due("1: new, from", x.from(0), 0);
        Check.due("NONE", OneTriangle.NONE, -1);
        Check.due("BAD", OneTriangle.BAD, -2);
        Check.due("NOT", OneTriangle.NOT, -3);
        Check.due("FULL", OneTriangle.FULL, -4);
    }

    private static void type() {
        OneTriangle x = new OneTriangle();
        Check.due("2: below 0", x.type(-1), -2);
        Check.due("2: above 255", x.type(256), -2);
        Check.due("2: least int", x.type(Integer.MIN_VALUE), -2);
        Check.due("2: BAD changes nothing", x.count(1), 0);
        Check.due("2: least byte", x.type(0), 1);
        Check.due("2: greatest byte", x.type(255), 2);
        for (int n = 3; n <= 60; n++) {
            Check.due("2: byte " + n, x.type('d'), n);
        }
        Check.due("2: FULL", x.type('d'), -4);
        Check.due("2: BAD ahead of FULL", x.type(256), -2);
        Check.due("2: FULL changes nothing", x.count(1), 60);
    }

    private static void wipe() {
        OneTriangle x = Check.typed(PIECE);
        Check.due("3: had", x.wipe(), 17);
        Check.due("3: has none", x.count(1), 0);
        Check.due("3: no BARS", x.count(0), 0);
        Check.due("3: LOOSE", x.count(2), 0);
        Check.due("3: CUES", x.count(3), 0);
        Check.due("3: no FAULT", x.fault(), -1);
        Check.due("3: again", x.wipe(), 0);
        Check.due("3: typed anew", x.type('x'), 1);
        Check.due("3: one BAR", x.count(0), 1);
        Check.due("3: a way", x.strike(1, 0), 0);
        x.wipe();
        Check.due("3: ways are gone", x.strike(1, 0), Check.NOT);
        Check.type(x, "p02x");
        Check.due("2: a way of the new text", x.likeliest(3), 2);
    }

    private static void undo() {
        OneTriangle x = new OneTriangle();
        Check.due("4: empty", x.undo(), -3);
        Check.type(x, "p03xq");
        Check.due("4: a byte behind x", x.fault(), 4);
        Check.due("4: no ways", x.likeliest(4), -3);
        Check.due("4: undone", x.undo(), 4);
        Check.due("4: well again", x.fault(), -1);
        Check.due("4: BARS again", x.count(0), 4);
        Check.due("4: ways again", x.likeliest(4), 3);
        Check.due("4: undone x", x.undo(), 3);
        Check.due("4: its end", x.fault(), 3);
        Check.due("4: no BARS", x.count(0), 0);
        Check.due("4: ways are gone", x.likeliest(4), -3);
        Check.due("4: more", x.undo(), 2);
        Check.due("4: more", x.undo(), 1);
        Check.due("4: last", x.undo(), 0);
        Check.due("4: empty is well", x.fault(), -1);
        Check.due("4: empty again", x.undo(), -3);
    }

    private static void faultOfBytes() {
        Check.due("5: empty", Check.faultOf(""), -1);
        Check.due("5: well", Check.faultOf(PIECE), -1);
        Check.due("5: x alone", Check.faultOf("x"), -1);
        Check.due("5: no x", Check.faultOf("d"), 1);
        Check.due("5: another letter", Check.faultOf("dq"), 1);
        Check.due("5: capital", Check.faultOf("Dx"), 0);
        Check.due("5: byte 0", Check.faultOf("\0x"), 0);
        Check.due("5: byte 255", Check.faultOf("\u00ffx"), 0);
        Check.due("5: p and its end", Check.faultOf("p"), 1);
        Check.due("5: p and no figure", Check.faultOf("px1x"), 1);
        Check.due("5: sign below 0", Check.faultOf("p/1x"), 1);
        Check.due("5: sign above 9", Check.faultOf("p:1x"), 1);
        Check.due("5: one figure", Check.faultOf("p1"), 2);
        Check.due("5: one figure and x", Check.faultOf("p1x"), 2);
        Check.due("5: one figure and no figure", Check.faultOf("p1:x"), 2);
        Check.due("5: one figure and a sign below 0", Check.faultOf("p2/x"), 2);
        Check.due("5: 00", Check.faultOf("p00x"), 2);
        Check.due("5: 01", Check.faultOf("p01x"), -1);
        Check.due("5: 10", Check.faultOf("p10x"), -1);
        Check.due("5: c and its end", Check.faultOf("dc"), 2);
        Check.due("5: tune before a", Check.faultOf("c`x"), 1);
        Check.due("5: tune e", Check.faultOf("cex"), 1);
        Check.due("5: tune d", Check.faultOf("cdx"), -1);
        Check.due("5: a tune alone", Check.faultOf("ax"), 0);
        Check.due("5: behind x", Check.faultOf("xd"), 1);
        Check.due("5: x behind x", Check.faultOf("dxx"), 2);
        Check.due("5: the first of two", Check.faultOf("dqqx"), 1);
    }

    private static void faultOfLimits() {
        Check.due("5: ten LOOSE", Check.faultOf(TEN_LOOSE + "x"), -1);
        Check.due("5: eleven LOOSE", Check.faultOf(TEN_LOOSE + "wx"), 10);
        Check.due("5: ten LOOSE, no x", Check.faultOf(TEN_LOOSE), 10);
        Check.due("5: six CUES", Check.faultOf(SIX_CUES + "x"), -1);
        Check.due("5: seven CUES", Check.faultOf(SIX_CUES + "cax"), 12);
        Check.due("5: seven CUES, the last no tune", Check.faultOf(SIX_CUES + "cq"), 12);
        Check.due("5: 99 BARS", Check.faultOf("p98x"), -1);
        Check.due("5: x too many", Check.faultOf("p99x"), 3);
        Check.due("5: 99 without x", Check.faultOf("p99"), 3);
        Check.due("5: d too many", Check.faultOf("p99dx"), 3);
        Check.due("5: c too many", Check.faultOf("p99cax"), 3);
        Check.due("5: p too many", Check.faultOf("p98dp01x"), 6);
        Check.due("5: p too many by much", Check.faultOf("p50p50x"), 5);
        Check.due("5: p99 behind a BAR", Check.faultOf("dp99x"), 3);
        Check.due("5: p98 behind a BAR, x too many", Check.faultOf("dp98x"), 4);
        Check.due("5: p97 behind a BAR", Check.faultOf("dp97x"), -1);
        Check.due("5: p begun where none fits", Check.faultOf("p99p0"), 5);
        StringBuilder full = new StringBuilder();
        for (int i = 0; i < 20; i++) {
            full.append("p01");
        }
        Check.due("5: sixty bytes without x", Check.faultOf(full.toString()), 60);
    }

    private static void withFaultNoBars() {
        OneTriangle x = Check.typed("dcap05xx");
        Check.due("5: with a FAULT, BARS", x.count(0), 0);
        Check.due("5: with a FAULT, LOOSE", x.count(2), 0);
        Check.due("5: with a FAULT, CUES", x.count(3), 0);
        Check.due("5: with a FAULT, bytes", x.count(1), 8);
        Check.due("5: with a FAULT, bar()", x.bar(0, 0), -2);
        Check.due("5: with a FAULT, where()", x.where(1, 0, 0), Check.BAD);
        Check.due("5: with a FAULT, likeliest()", x.likeliest(1), -3);
        Check.due("5: with a FAULT, strike()", x.strike(1, 0), Check.NOT);
        Check.due("5: with a FAULT, anew()", x.anew(0), -2);
        Check.due("5: with a FAULT, night()", x.night(1, 5), 5);
    }

    private static void bar() {
        OneTriangle x = Check.typed(PIECE);
        int[] kinds = {3, 3, 3, 0, 3, 3, 4, 1, 3, 4, 2, 5};
        for (int b = 0; b < kinds.length; b++) {
            Check.due("6: kind of " + b, x.bar(b, 0), kinds[b]);
            Check.due("6: tune of " + b, x.bar(b, 1), b == 6 ? 0 : b == 9 ? 1 : -1);
            Check.due("6: CUE of " + b, x.bar(b, 2), b == 6 ? 0 : b == 9 ? 1 : -1);
        }
        Check.due("6: no such BAR", x.bar(12, 0), -2);
        Check.due("6: below 0", x.bar(-1, 0), -2);
        Check.due("6: what above", x.bar(0, 3), -2);
        Check.due("6: what below", x.bar(0, -1), -2);
        OneTriangle y = Check.typed("cdcacdx");
        Check.due("6: tune d", y.bar(0, 1), 3);
        Check.due("6: tune a of CUE 1", y.bar(1, 1), 0);
        Check.due("6: CUE 2", y.bar(2, 2), 2);
        y.wipe();
        Check.type(y, "p03x");
        Check.due("6: no tune of an earlier text", y.bar(0, 1), -1);
        Check.due("6: no CUE of an earlier text", y.bar(2, 2), -1);
    }

    private static void odds() {
        OneTriangle x = Check.typed("dwmx");
        Check.due("7: d at first", x.odds(0, 4, 5), 33);
        Check.due("7: w at first", x.odds(1, 0, 16), 19);
        Check.due("7: m at first", x.odds(2, 16, 0), 50);
        Check.due("7: d then", x.odds(0, 0, 0), 69);
        Check.due("7: w then", x.odds(1, 0, 0), 16);
        Check.due("7: m then", x.odds(2, 0, 0), 256);
        int[][] bad = {{-1, 0, 0}, {3, 0, 0}, {0, -1, 0}, {0, 0, -1}, {0, 17, 0}, {0, 0, 17}, {0, 9, 8},
            {0, Integer.MAX_VALUE, 1}, {0, 1, Integer.MAX_VALUE}, {0, 20, -4}, {0, -4, 20}};
        for (int[] b : bad) {
            Check.due("7: BAD " + b[0] + " " + b[1] + " " + b[2], x.odds(b[0], b[1], b[2]), -2);
        }
        Check.due("7: BAD changes nothing", x.odds(0, 8, 8), 0);
        Check.fraction("7: it tells", x.slips(1, -1, 0), x.slips(1, -1, 1), 1, 2);
        Check.due("7: ways before", x.where(1, 0, 1), 2);
        x.odds(0, 4, 0);
        Check.fraction("7: ways behind", x.where(1, 0, 0), x.where(1, 0, 1), 3, 4);
    }

    private static void set() {
        OneTriangle x = new OneTriangle();
        int[] first = {14, 2, 1, 13, 20, 30, 12, 1, 1};
        int[] most = {16, 16, 16, 16, 99, 99, 16, 4, 4};
        for (int what = 0; what < 9; what++) {
            Check.due("8: too much " + what, x.set(what, most[what] + 1), -2);
            Check.due("8: below 0 " + what, x.set(what, -1), -2);
            Check.due("8: at first " + what, x.set(what, most[what]), first[what]);
            Check.due("8: greatest " + what, x.set(what, 0), most[what]);
            Check.due("8: least " + what, x.set(what, 3), 0);
        }
        for (int what = 0; what < 9; what++) {
            Check.due("8: each its own " + what, x.set(what, 1), 3);
        }
        Check.due("8: no such thing", x.set(9, 0), -2);
        Check.due("8: what below 0", x.set(-1, 0), -2);
    }

    /** Each at a call that only it moves. */
    private static void setMatters() {
        OneTriangle x = Check.typed("dcacbx");
        x.hear(2, 0);
        Check.due("8: before", x.where(2, 0, 1), 187);
        x.set(0, 15);
        Check.due("8: KNOWN 13 more", x.where(2, 0, 1), 200);
        x.set(1, 3);
        Check.due("8: ALIKE 2 more", x.where(2, 0, 1), 202);
        x.set(2, 3);
        Check.due("8: STRAY, 204 by 3", x.where(2, 0, 1), 68);
        x.forget();
        x.shown(2, 1);
        x.set(3, 1);
        Check.fraction("8: RELY", x.where(2, 1, 0), x.where(2, 1, 1), 13, 58);
        x.set(4, 99);
        Check.due("8: EARLY", x.strike(1, 0), 99);
        x.set(5, 0);
        Check.due("8: LEAVE", x.line(), -1);
        x.set(6, 16);
        Check.fraction("8: HEARD", x.safe(1, 0), x.safe(1, 1), 1, 1);
        x.set(7, 4);
        Check.fraction("8: LEARN", x.evening(2, 0), x.evening(2, 1), 15, 16);
        x.set(8, 4);
        Check.fraction("8: BORED", x.evening(2, 0), x.evening(2, 1), 7, 8);
    }

    private static void read() {
        OneTriangle x = new OneTriangle();
        x.from(4);
        x.said(9);
        x.sheet(1, 0, 6);
        int[] items = {5, 6, 110, 1, 0, 7};
        for (int i = 0; i < items.length; i++) {
            x.put(1, 0, i, items[i]);
        }
        Check.due("9: up to one that may not be", x.read(1), 4);
        Check.due("9: so many", x.count(6), 4);
        Check.due("9: what was there is forgotten", x.wrong(0), 2);
        Check.due("9: its wrong ones", x.wrong(1), 2);
        Check.due("9: the BAR stays", x.from(0), 4);
        x.put(1, 0, 2, 111);
        Check.due("9: 111 may not be", x.read(1), 2);
        x.put(1, 0, 0, 200);
        Check.due("9: a byte below 0 may not be", x.read(1), 0);
        Check.due("9: then it is empty", x.count(6), 0);
        x.sheet(2, 2, 48);
        for (int i = 0; i < 48; i++) {
            x.put(2, 2, i, i + 1);
        }
        Check.due("9: twenty at most", x.read(2), 20);
        Check.due("9: then it is full", x.said(21), -4);
        Check.due("9: all right", x.wrong(0), -1);
        x.sheet(3, 1, 0);
        Check.due("9: an empty SHEET", x.read(3), 0);
    }

    private static void readRefused() {
        OneTriangle x = new OneTriangle();
        x.said(1);
        Check.due("9: below 0", x.read(-1), -2);
        Check.due("9: no such SHEET", x.read(4), -2);
        Check.due("9: BAD is no FINDING", x.count(8), 0);
        Check.due("9: LOST", x.read(0), -11);
        Check.due("9: the FINDING", x.count(8), 1);
        Check.due("9: NULL changes nothing", x.count(6), 1);
    }
}
