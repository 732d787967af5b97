import java.math.BigInteger;

/** The boundary cases that the document names of SHEETS, count() and digest() (34 to 41). */
public final class SheetsEdgesTest {
    private static final int LEAST = Integer.MIN_VALUE, GREATEST = Integer.MAX_VALUE;
    private static final int[] NO_SHEETS = {-1, 4, LEAST, GREATEST};
    private static final int[] NO_FORMS = {-1, 3, LEAST, GREATEST};

    private SheetsEdgesTest() {
    }

    public static void main(String[] args) {
        lostAtFirst();
        upTo48();
        zeroAtFirst();
        sheetRefused();
        lostAgain();
        loseRefused();
        lowestBits();
        putRefused();
        putInOrder();
        getRefused();
        findingsAreToldOnce();
        copyAsTheyWere();
        copyOfNone();
        copyRefused();
        copyWithoutRoom();
        copyInOrder();
        tellAsMany();
        tellRefused();
        countRange();
        countOfFindings();
        digestOfRefusals();
        digestOfCues();
        digestOfJustThese();
        digestWraps();
        Check.close();
    }

    private static void lostAtFirst() {
        Check.says("1", "An empty PIECE; all SHEETS are LOST.");
        OneTriangle x = new OneTriangle();
        Check.due("empty", x.count(1), 0);
        Check.due("no FINDING before any", x.count(8), 0);
        for (int s = 0; s <= 3; s++) {
            for (int form = 0; form <= 2; form++) {
                Check.due("put " + s, x.put(s, form, 0, 1), -11);
                Check.due("get " + s, x.get(s, form, 0), LEAST);
            }
            Check.due("lose " + s, x.lose(s), -11);
            Check.due("tell " + s, x.tell(s), -11);
            Check.due("read " + s, x.read(s), -11);
            Check.due("copy " + s, x.copy(s, 0, s, 0, 0), -11);
        }
        Check.due("NULL", x.count(8), 1);
    }

    private static void upTo48() {
        Check.says("34", "of 0 to 48 items");
        for (int form = 0; form <= 2; form++) {
            OneTriangle x = new OneTriangle();
            for (int n = 0; n <= 48; n++) {
                Check.due(n + " items", x.sheet(n % 4, form, n), n);
                Check.due("the last of " + n, x.put(n % 4, form, n - 1, 1), n == 0 ? -12 : 1);
                Check.due("behind the last of " + n, x.put(n % 4, form, n, 1), -12);
            }
            Check.due("49", x.sheet(0, form, 49), -2);
            Check.due("it stays", x.lose(0), 48);
        }
    }

    private static void zeroAtFirst() {
        Check.says("34", "(0 at first)");
        OneTriangle x = new OneTriangle();
        x.sheet(1, 2, 48);
        for (int i = 0; i < 48; i++) {
            Check.due("item " + i, x.get(1, 2, i), 0);
            x.put(1, 2, i, -1);
        }
        Check.says("34", "A SHEET is a new row of a FORM with n items");
        x.sheet(1, 1, 24);
        x.sheet(1, 2, 48);
        for (int i = 0; i < 48; i++) {
            Check.due("item " + i + " anew", x.get(1, 2, i), 0);
        }
        x.put(1, 2, 47, 5);
        x.lose(1);
        x.sheet(1, 2, 48);
        Check.due("behind a LOST one", x.get(1, 2, 47), 0);
    }

    private static void sheetRefused() {
        Check.says("34", "BAD: SHEET, FORM, above 48; SIZE.");
        OneTriangle x = new OneTriangle();
        for (int n : new int[] {0, 48, -1, 49}) {
            for (int bad : NO_SHEETS) {
                Check.due("SHEET " + bad + ", " + n, x.sheet(bad, 0, n), -2);
            }
            for (int bad : NO_FORMS) {
                Check.due("FORM " + bad + ", " + n, x.sheet(0, bad, n), -2);
            }
        }
        for (int form = 0; form <= 2; form++) {
            Check.due("49", x.sheet(0, form, 49), -2);
            Check.due("greatest int", x.sheet(0, form, GREATEST), -2);
        }
        Check.due("no FINDING", x.count(8), 0);
        Check.due("below 0", x.sheet(0, 0, -1), -15);
        Check.due("SIZE", x.count(8), 5);
        Check.due("least int", x.sheet(3, 2, LEAST), -15);
        Check.due("none was made", x.lose(0), -11);
        x.sheet(0, 1, 7);
        x.put(0, 1, 6, 9);
        x.sheet(0, 2, -1);
        x.sheet(0, 2, 49);
        Check.due("the old row stays", x.get(0, 1, 6), 9);
    }

    private static void lostAgain() {
        Check.says("35", "It is LOST: how many items it had.");
        for (int n : new int[] {0, 1, 48}) {
            OneTriangle x = new OneTriangle();
            x.sheet(2, 0, n);
            Check.due(n + " items", x.lose(2), n);
            Check.due("it is LOST", x.lose(2), -11);
            Check.due("for put() too", x.put(2, 0, 0, 1), -11);
            Check.due("and may be made again", x.sheet(2, 0, n), n);
        }
    }

    private static void loseRefused() {
        Check.says("35", "how many items it had. BAD; NULL.");
        OneTriangle x = new OneTriangle();
        for (int bad : NO_SHEETS) {
            Check.due("SHEET " + bad, x.lose(bad), -2);
        }
        Check.due("no FINDING", x.count(8), 0);
        Check.due("LOST", x.lose(3), -11);
        Check.due("NULL", x.count(8), 1);
        x.sheet(3, 0, 5);
        x.lose(2);
        Check.due("another stays", x.lose(3), 5);
    }

    private static void lowestBits() {
        Check.says("36", "becomes v (the lowest bits that it has)");
        int[][] due = {{127, 127, 127, 127}, {128, -128, 128, 128}, {255, -1, 255, 255}, {256, 0, 256, 256},
            {-128, -128, -128, -128}, {-129, 127, -129, -129}, {32767, -1, 32767, 32767},
            {32768, 0, -32768, 32768}, {65535, -1, -1, 65535}, {65536, 0, 0, 65536}, {-32769, -1, 32767, -32769},
            {GREATEST, -1, -1, GREATEST}, {LEAST, 0, 0, LEAST}, {0x12345678, 0x78, 0x5678, 0x12345678}};
        for (int[] d : due) {
            OneTriangle x = new OneTriangle();
            for (int form = 0; form <= 2; form++) {
                x.sheet(form, form, 3);
                Check.due("put " + d[0], x.put(form, form, 1, d[0]), 1);
                Check.due("FORM " + form + " of " + d[0], x.get(form, form, 1), d[form + 1]);
                Check.due("the one ahead", x.get(form, form, 0), 0);
                Check.due("the one behind", x.get(form, form, 2), 0);
            }
        }
    }

    private static void putRefused() {
        Check.says("36", "BAD; NULL; CAST; INDEX.");
        OneTriangle x = new OneTriangle();
        x.sheet(1, 1, 4);
        for (int bad : NO_SHEETS) {
            Check.due("SHEET " + bad, x.put(bad, 1, 0, 7), -2);
        }
        for (int bad : NO_FORMS) {
            Check.due("FORM " + bad, x.put(1, bad, 0, 7), -2);
        }
        Check.due("no FINDING", x.count(8), 0);
        Check.due("NULL", x.put(0, 1, 0, 7), -11);
        Check.due("it is told", x.count(8), 1);
        Check.due("CAST to bytes", x.put(1, 0, 0, 7), -13);
        Check.due("it is told", x.count(8), 3);
        for (int bad : new int[] {-1, 4, 47, 48, LEAST, GREATEST}) {
            Check.due("INDEX " + bad, x.put(1, 1, bad, 7), -12);
        }
        Check.due("it is told", x.count(8), 2);
        Check.due("CAST to ints", x.put(1, 2, 0, 7), -13);
        for (int i = 0; i < 4; i++) {
            Check.due("nothing came, " + i, x.get(1, 1, i), 0);
        }
        Check.due("the first item", x.put(1, 1, 0, 7), 1);
        Check.due("the last item", x.put(1, 1, 3, 7), 1);
    }

    private static void putInOrder() {
        Check.says("36", "Refusals, the first that fits, in the order told at each act");
        OneTriangle x = new OneTriangle();
        x.sheet(1, 1, 4);
        Check.due("BAD ahead of NULL", x.put(0, 3, 9, 7), -2);
        Check.due("BAD ahead of CAST and INDEX", x.put(1, 3, 9, 7), -2);
        Check.due("NULL ahead of INDEX", x.put(0, 0, -1, 7), -11);
        Check.due("CAST ahead of INDEX", x.put(1, 0, -1, 7), -13);
        Check.due("CAST ahead of INDEX", x.put(1, 2, 4, 7), -13);
    }

    private static void getRefused() {
        Check.says("37", "BAD: the least int; so are NULL, CAST, INDEX (count() 8 tells).");
        OneTriangle x = new OneTriangle();
        x.sheet(1, 1, 4);
        for (int bad : NO_SHEETS) {
            Check.due("SHEET " + bad, x.get(bad, 1, 0), LEAST);
        }
        for (int bad : NO_FORMS) {
            Check.due("FORM " + bad, x.get(1, bad, 0), LEAST);
            Check.due("BAD ahead of NULL, FORM " + bad, x.get(0, bad, 0), LEAST);
        }
        Check.due("BAD is no FINDING", x.count(8), 0);
        Check.due("NULL", x.get(0, 1, 9), LEAST);
        Check.due("NULL is told", x.count(8), 1);
        Check.due("CAST", x.get(1, 2, 9), LEAST);
        Check.due("CAST is told", x.count(8), 3);
        for (int bad : new int[] {-1, 4, 47, 48, LEAST, GREATEST}) {
            x.get(0, 0, 0);
            Check.due("INDEX " + bad, x.get(1, 1, bad), LEAST);
            Check.due("INDEX is told, " + bad, x.count(8), 2);
        }
        x.sheet(2, 2, 1);
        x.put(2, 2, 0, LEAST);
        x.get(0, 0, 0);
        Check.due("an item that is the least int", x.get(2, 2, 0), LEAST);
        Check.due("is no FINDING", x.count(8), 1);
    }

    private static void findingsAreToldOnce() {
        Check.says("34 to 38", "1 NULL: the SHEET is LOST; 2 INDEX: there is no such item; 3 CAST: it has another "
            + "FORM; 4 STORE: unlike FORMS; 5 SIZE: below 0.");
        OneTriangle x = new OneTriangle();
        x.sheet(0, 0, 2);
        x.sheet(1, 1, 2);
        Check.due("1", x.lose(3), -11);
        Check.due("told", x.count(8), 1);
        Check.due("2", x.put(0, 0, 2, 1), -12);
        Check.due("told", x.count(8), 2);
        Check.due("3", x.put(0, 1, 0, 1), -13);
        Check.due("told", x.count(8), 3);
        Check.due("4", x.copy(0, 0, 1, 0, 1), -14);
        Check.due("told", x.count(8), 4);
        Check.due("5", x.sheet(0, 0, -1), -15);
        Check.due("told", x.count(8), 5);
        x.put(0, 0, 0, 1);
        x.lose(1);
        x.lose(9);
        x.type(-1);
        x.undo();
        Check.due("what goes well, BAD and NOT leave it", x.count(8), 5);
    }

    /** Bytes 1 to n. */
    private static OneTriangle withRow(int n) {
        OneTriangle x = new OneTriangle();
        x.sheet(0, 0, n);
        for (int i = 0; i < n; i++) {
            x.put(0, 0, i, i + 1);
        }
        return x;
    }

    private static void items(String what, OneTriangle x, int s, int... due) {
        for (int i = 0; i < due.length; i++) {
            Check.due(what + ", item " + i, x.get(s, 0, i), due[i]);
        }
    }

    private static void copyAsTheyWere() {
        Check.says("38", "come to SHEET t (perhaps s, as they were), from j on");
        OneTriangle x = withRow(6);
        x.copy(0, 0, 0, 2, 4);
        items("up", x, 0, 1, 2, 1, 2, 3, 4);
        x = withRow(6);
        x.copy(0, 2, 0, 0, 4);
        items("down", x, 0, 3, 4, 5, 6, 5, 6);
        x = withRow(6);
        x.copy(0, 0, 0, 0, 6);
        items("onto itself", x, 0, 1, 2, 3, 4, 5, 6);
        x = withRow(48);
        x.sheet(3, 0, 48);
        Check.due("all 48", x.copy(0, 0, 3, 0, 48), 1);
        for (int i = 0; i < 48; i++) {
            Check.due("of all, " + i, x.get(3, 0, i), i + 1);
        }
        x.put(0, 0, 0, 99);
        Check.due("they are two rows", x.get(3, 0, 0), 1);
    }

    private static void copyOfNone() {
        Check.says("38", "n items of SHEET s, from i on");
        OneTriangle x = withRow(3);
        x.sheet(1, 0, 2);
        x.sheet(2, 0, 0);
        Check.due("none from 0", x.copy(0, 0, 1, 0, 0), 1);
        Check.due("none from the end", x.copy(0, 3, 1, 2, 0), 1);
        Check.due("none of an empty row", x.copy(2, 0, 2, 0, 0), 1);
        Check.due("none behind the end", x.copy(0, 4, 1, 0, 0), -12);
        Check.due("none to behind the end", x.copy(0, 0, 1, 3, 0), -12);
        Check.due("one of an empty row", x.copy(2, 0, 1, 0, 1), -12);
        items("nothing came", x, 1, 0, 0);
    }

    private static void copyRefused() {
        Check.says("38", "BAD: the SHEETS; NULL: s, t; STORE; INDEX: below 0, not so many.");
        OneTriangle x = withRow(5);
        x.sheet(1, 0, 4);
        x.sheet(2, 1, 5);
        for (int bad : NO_SHEETS) {
            Check.due("s " + bad, x.copy(bad, 0, 0, 0, 1), -2);
            Check.due("t " + bad, x.copy(0, 0, bad, 0, 1), -2);
        }
        Check.due("no FINDING", x.count(8), 0);
        Check.due("s is LOST", x.copy(3, 0, 0, 0, 1), -11);
        Check.due("t is LOST", x.copy(0, 0, 3, 0, 1), -11);
        Check.due("NULL", x.count(8), 1);
        Check.due("unlike FORMS", x.copy(0, 0, 2, 0, 1), -14);
        Check.due("unlike FORMS, none of them", x.copy(2, 0, 0, 0, 0), -14);
        Check.due("STORE", x.count(8), 4);
        int[][] index = {{-1, 0, 1}, {0, -1, 1}, {0, 0, -1}, {LEAST, 0, 1}, {0, LEAST, 1}, {0, 0, LEAST}};
        for (int[] i : index) {
            Check.due("below 0: " + i[0] + ", " + i[1] + ", " + i[2], x.copy(0, i[0], 1, i[1], i[2]), -12);
        }
        Check.due("INDEX", x.count(8), 2);
        items("nothing came", x, 1, 0, 0, 0, 0);
    }

    private static void copyWithoutRoom() {
        Check.says("38", "INDEX: below 0, not so many.");
        for (int i = 0; i <= 7; i++) {
            for (int j = 0; j <= 7; j++) {
                for (int n = 0; n <= 7; n++) {
                    OneTriangle x = withRow(5);
                    x.sheet(1, 0, 4);
                    boolean may = i + n <= 5 && j + n <= 4;
                    Check.due(i + ", " + j + ", " + n, x.copy(0, i, 1, j, n), may ? 1 : -12);
                }
            }
        }
        int[][] wraps = {{GREATEST, 0, 1}, {0, GREATEST, 1}, {0, 0, GREATEST}, {1, 1, GREATEST},
            {GREATEST, GREATEST, GREATEST}, {GREATEST, 0, 2}, {5, 4, GREATEST - 3}};
        OneTriangle x = withRow(5);
        x.sheet(1, 0, 4);
        for (int[] w : wraps) {
            Check.due("a sum that wraps: " + w[0] + ", " + w[1] + ", " + w[2], x.copy(0, w[0], 1, w[1], w[2]), -12);
        }
        items("nothing came", x, 1, 0, 0, 0, 0);
    }

    private static void copyInOrder() {
        Check.says("38", "Refusals, the first that fits, in the order told at each act");
        OneTriangle x = withRow(5);
        x.sheet(2, 1, 5);
        Check.due("BAD ahead of NULL", x.copy(3, 0, 4, 0, 1), -2);
        Check.due("BAD ahead of NULL, t", x.copy(-1, 0, 3, 0, 1), -2);
        Check.due("NULL ahead of INDEX", x.copy(3, -1, 0, -1, -1), -11);
        Check.due("NULL ahead of INDEX, t", x.copy(0, -1, 3, -1, -1), -11);
        Check.due("STORE ahead of INDEX", x.copy(0, -1, 2, -1, -1), -14);
    }

    private static void tellAsMany() {
        Check.says("39", "as many as there are items and BARS: how many");
        int[] kinds = {0, 1, 2, 3, 3, 4, 5};
        for (int n = 0; n <= 10; n++) {
            for (int form = 0; form <= 2; form++) {
                OneTriangle x = Check.typed("dwmp02cdx");
                x.sheet(form, form, n);
                for (int i = 0; i < n; i++) {
                    x.put(form, form, i, 77);
                }
                Check.due(n + " items", x.tell(form), Math.min(n, 7));
                for (int i = 0; i < n; i++) {
                    Check.due(n + " items, " + i, x.get(form, form, i), i < 7 ? kinds[i] : 77);
                }
            }
        }
        OneTriangle y = Check.typed("p98x");
        y.sheet(0, 0, 48);
        Check.due("48 items, 99 BARS", y.tell(0), 48);
        Check.due("the last item", y.get(0, 0, 47), 3);
        OneTriangle none = new OneTriangle();
        none.sheet(0, 0, 1);
        none.put(0, 0, 0, 77);
        Check.due("no BARS", none.tell(0), 0);
        Check.due("the item stays", none.get(0, 0, 0), 77);
    }

    private static void tellRefused() {
        Check.says("39", "how many. BAD; NULL.");
        OneTriangle x = Check.typed("dx");
        for (int bad : NO_SHEETS) {
            Check.due("SHEET " + bad, x.tell(bad), -2);
        }
        Check.due("no FINDING", x.count(8), 0);
        Check.due("LOST", x.tell(3), -11);
        Check.due("NULL", x.count(8), 1);
        Check.due("NULL without BARS too", new OneTriangle().tell(0), -11);
    }

    private static void countRange() {
        Check.says("40", "8 the number of the latest FINDING (0 before any). BAD.");
        OneTriangle x = new OneTriangle();
        int[] first = {0, 0, 0, 0, 0, 0, 0, 14, 0};
        for (int what = 0; what <= 8; what++) {
            Check.due("of a new one, " + what, x.count(what), first[what]);
        }
        for (int bad : new int[] {-1, 9, LEAST, GREATEST}) {
            Check.due("what " + bad, x.count(bad), -2);
        }
        OneTriangle y = Check.typed("dwmdwmdwmdcacbcccdcacbp82x");
        for (int i = 0; i < 30; i++) {
            y.hear(1, 1);
            y.player(1, 1);
            y.said(1);
        }
        y.set(0, 16);
        int[] most = {99, 26, 10, 6, 4, 8, 20, 16, 0};
        for (int what = 0; what <= 8; what++) {
            Check.due("of a full one, " + what, y.count(what), most[what]);
        }
    }

    private static void countOfFindings() {
        Check.says("40", "8 the number of the latest FINDING (0 before any).");
        OneTriangle x = new OneTriangle();
        x.sheet(0, 0, 49);
        x.get(4, 0, 0);
        x.read(-1);
        Check.due("BAD is none", x.count(8), 0);
        x.sheet(0, 0, -1);
        x.lose(0);
        Check.due("the latest", x.count(8), 1);
        x.sheet(0, 0, 0);
        x.lose(0);
        Check.due("it stays", x.count(8), 1);
    }

    /** 17, then each answer of a new object, as the document tells them one by one. */
    private static void digestOfRefusals() {
        Check.says("41", "(as they are told)");
        long bad = Check.BAD;
        long not = Check.NOT;
        long[] each = {0, 0, 0, 0, 0, 0, 0, 14, -1, bad, bad, -3, not, not, bad, bad, -3, not, not, bad, bad, -3,
            not, not, -1, bad, bad, bad, bad, bad, bad, bad, bad, bad, bad, not, not, not, not, -2, -2, -3, 27, 34,
            not, not, not, not, -3, -3, 0, 0, -1, -1, 0, -1, 0, 20};
        long h = 17;
        for (long one : each) {
            h = 31 * h + one;
        }
        OneTriangle x = new OneTriangle();
        Check.due("of a new object", x.digest(), h);
        x.get(0, 0, 0);
        Check.due("it leaves count() 8 aside", x.digest(), h);
        x.sheet(0, 0, 5);
        Check.due("and SHEETS", x.digest(), h);
        x.type('q');
        Check.holds("not THE PIECE", x.digest() != h);
    }

    private static void digestOfCues() {
        Check.says("41", "of CUES anew()");
        String[] texts = {"dp30x", "dcap29x", "dcacbp28x", "dcacbcccdcacbp24x"};
        for (String text : texts) {
            OneTriangle x = Check.typed(text);
            Check.due(text, x.digest(), bigDigestOf(x));
        }
    }

    private static void digestOfJustThese() {
        Check.says("41", "few(8) (as they are told)");
        OneTriangle x = Check.typed("dcax");
        x.odds(0, 8, 0);
        Check.due("none by 8", x.few(8), 0);
        Check.due("one by 9", x.few(9), 1);
        Check.due("digest", x.digest(), bigDigestOf(x));
        Check.says("41", "of EVENINGS 0, 9 evening()");
        OneTriangle y = Check.typed("dx");
        y.odds(0, 12, 0);
        y.set(7, 4);
        y.set(8, 0);
        Check.due("EVENING 8", y.evening(8, 0), 3);
        Check.due("EVENING 9", y.evening(9, 0), 13);
        Check.due("EVENING 10", y.evening(10, 0), 7);
        Check.due("digest", y.digest(), bigDigestOf(y));
    }

    private static void digestWraps() {
        Check.says("41", "as longs that wrap");
        OneTriangle x = Check.typed("p09dwmcacbp06dwmx");
        x.hear(10, 0);
        x.player(10, 4);
        x.said(3);
        Check.due("by big numbers", x.digest(), bigDigestOf(x));
    }

    private static long bigDigestOf(OneTriangle x) {
        BigInteger h = BigInteger.valueOf(17);
        for (long one : SheetsTest.digested(x)) {
            h = h.multiply(BigInteger.valueOf(31)).add(BigInteger.valueOf(one));
        }
        return h.longValue();
    }
}
