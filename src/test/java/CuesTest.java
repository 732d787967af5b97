/** Promises 18 to 24: written cues, counting anew, two counts, evenings. */
public final class CuesTest {
    private static final int[] BAD_PARTS = {-1, 2, Integer.MIN_VALUE};

    private CuesTest() {
    }

    public static void main(String[] args) {
        safe();
        safeOfAllThereIs();
        safeRefused();
        write();
        writeRefused();
        few();
        anew();
        joint();
        evening();
        prime();
        primeHeld();
        Check.close();
    }

    private static void safe() {
        OneTriangle x = Check.typed("dcax");
        Check.fraction("18: none", x.safe(0, 0), x.safe(0, 1), 13, 16);
        Check.fraction("18: CUE 0", x.safe(1, 0), x.safe(1, 1), 61, 64);
        Check.fraction("18: one that there is not", x.safe(2, 0), x.safe(2, 1), 13, 16);
        Check.fraction("18: bits of others", x.safe(63, 0), x.safe(63, 1), 61, 64);
        x.set(6, 16);
        Check.fraction("18: always heard", x.safe(1, 0), x.safe(1, 1), 1, 1);
        x.set(6, 0);
        Check.fraction("18: never heard", x.safe(1, 0), x.safe(1, 1), 13, 16);
        OneTriangle y = Check.typed("dcadcbx");
        Check.fraction("18: two d", y.safe(0, 0), y.safe(0, 1), 173, 256);
        Check.fraction("18: the first", y.safe(1, 0), y.safe(1, 1), 797, 1024);
        Check.fraction("18: the second", y.safe(2, 0), y.safe(2, 1), 941, 1024);
        Check.fraction("18: both", y.safe(3, 0), y.safe(3, 1), 3869, 4096);
        y.shown(1, 3);
        Check.fraction("18: NOTES aside", y.safe(3, 0), y.safe(3, 1), 3869, 4096);
        OneTriangle z = Check.typed("dwmdwmdwmdcacbccx");
        z.set(6, 1);
        for (int kind = 0; kind < 3; kind++) {
            z.odds(kind, 16, 0);
        }
        Check.fraction("18: in parts of 16^3", z.safe(7, 0), z.safe(7, 1), 4096 - 15 * 15 * 15, 4096);
    }

    /** Ten LOOSE BARS and three WRITTEN CUES: parts of 16 to the 13th, none of them cut. */
    private static void safeOfAllThereIs() {
        String text = "dwcamdwcbmdwmccdx";
        OneTriangle x = Check.typed(text);
        Model model = new Model();
        for (int i = 0; i < text.length(); i++) {
            model.type(text.charAt(i));
        }
        for (int kind = 0; kind < 3; kind++) {
            x.odds(kind, 2, 3);
            model.odds(kind, 2, 3);
        }
        x.set(6, 11);
        model.set(6, 11);
        Check.fraction("18: all", x.safe(7, 0), x.safe(7, 1), model.safe(7, 0), model.safe(7, 1));
        Check.due("18: in parts of 16^13", x.safe(7, 1), 1L << 52);
    }

    private static void safeRefused() {
        OneTriangle x = Check.typed("cacbcccdx");
        Check.due("18: below 0", x.safe(-1, 0), Check.BAD);
        Check.due("18: above 63", x.safe(64, 0), Check.BAD);
        Check.due("18: least int", x.safe(Integer.MIN_VALUE, 0), Check.BAD);
        for (int bad : BAD_PARTS) {
            Check.due("18: what " + bad, x.safe(0, bad), Check.BAD);
        }
        Check.due("18: four", x.safe(15, 0), Check.BAD);
        Check.due("18: three", x.safe(14, 0), 1);
        Check.due("18: three and others", x.safe(7 + 48, 0), 1);
        Check.due("18: below 0, three CUES at most", Check.typed("dcax").safe(-1, 0), Check.BAD);
        OneTriangle y = new OneTriangle();
        Check.due("18: no BARS", y.safe(63, 1), Check.NOT);
        Check.due("18: BAD ahead of NOT", y.safe(0, 2), Check.BAD);
        Check.due("18: BAD ahead of NOT", y.safe(64, 0), Check.BAD);
    }

    private static void write() {
        OneTriangle x = Check.typed("dcadcbx");
        Check.due("19: none", x.write(0), 0);
        Check.due("19: the best", x.write(1), 2);
        Check.due("19: both", x.write(2), 3);
        OneTriangle y = Check.typed("dcacbccx");
        Check.due("19: of like ones the least", y.write(1), 1);
        Check.due("19: of like two the least", y.write(2), 3);
        Check.due("19: three", y.write(3), 7);
        OneTriangle z = Check.typed("cadcbdccx");
        Check.due("19: the last", z.write(1), 4);
        Check.due("19: the last two", z.write(2), 6);
        z.set(6, 16);
        Check.due("19: another does no more", z.write(2), 5);
        OneTriangle six = Check.typed("dcadcbdccdcddcadcbx");
        Check.due("19: of six the last", six.write(1), 32);
        Check.due("19: of six two", six.write(2), 48);
        Check.due("19: of six three", six.write(3), 56);
    }

    private static void writeRefused() {
        OneTriangle x = Check.typed("dcadcbx");
        Check.due("19: more than there are", x.write(3), -2);
        Check.due("19: below 0", x.write(-1), -2);
        Check.due("19: four", Check.typed("cacbcccdx").write(4), -2);
        OneTriangle y = new OneTriangle();
        Check.due("19: no BARS", y.write(0), -3);
        Check.due("19: BAD ahead of NOT", y.write(1), -2);
        Check.due("19: no CUES", Check.typed("dx").write(0), 0);
    }

    private static void few() {
        OneTriangle x = Check.typed("dcadcbx");
        int[] due = {0, 0, 0, 0, 0, 0, 0, 0, 0, 0, 0, 1, 1, 2, 2, 3, -1};
        for (int n = 0; n <= 16; n++) {
            Check.due("20: " + n, x.few(n), due[n]);
        }
        x.set(6, 16);
        Check.due("20: always heard", x.few(16), 2);
        Check.due("20: below 0", x.few(-1), -2);
        Check.due("20: above 16", x.few(17), -2);
        OneTriangle y = Check.typed("dcax");
        Check.due("20: just so many", y.few(13), 0);
        Check.due("20: one more", y.few(14), 1);
        // The d behind all CUES is always missed.
        OneTriangle z = Check.typed("cacbcccddx");
        z.odds(0, 16, 0);
        Check.due("20: none", z.few(1), -1);
        Check.due("20: 0 by none", z.few(0), 0);
        OneTriangle none = new OneTriangle();
        Check.due("20: no BARS", none.few(0), -3);
        Check.due("20: BAD ahead of NOT", none.few(17), -2);
        OneTriangle six = Check.typed("dcacbcccdcacbx");
        six.odds(0, 16, 0);
        six.set(6, 8);
        Check.due("20: of six one", six.few(8), 1);
        Check.due("20: of six two", six.few(12), 3);
        Check.due("20: of six three", six.few(14), 7);
        Check.due("20: three at most", six.few(15), -1);
    }

    private static void anew() {
        OneTriangle x = Check.typed("dcacax");
        Check.due("21: two of a tune", x.anew(0), 0);
        x.odds(0, 8, 0);
        Check.due("21: alike is not greater", x.anew(0), 0);
        x.odds(0, 9, 0);
        Check.due("21: truly greater", x.anew(0), 1);
        Check.due("21: the other", x.anew(1), 1);
        Check.due("21: below 0", x.anew(-1), -2);
        Check.due("21: no such CUE", x.anew(2), -2);
        Check.due("21: no BARS", new OneTriangle().anew(0), -2);
        x.set(0, 1);
        Check.due("21: one by two still", x.anew(0), 1);
        x.odds(0, 16, 0);
        Check.due("21: heard at all", x.anew(1), 1);
        x.set(0, 0);
        Check.due("21: no tune is heard", x.anew(0), 0);
        OneTriangle y = Check.typed("dcacbx");
        // 14 by 16 against 13 by 16.
        Check.due("21: ALIKE", y.anew(0), 1);
        y.set(1, 4);
        Check.due("21: ALIKE more", y.anew(0), 0);
        y.set(0, 0);
        y.odds(0, 16, 0);
        Check.due("21: the others alone", y.anew(0), 0);
        Check.due("21: surely right", Check.typed("cadx").anew(0), 0);
        Check.due("21: TRUE at its BAR", Check.typed("dcax").anew(0), 1);
    }

    private static void joint() {
        OneTriangle x = new OneTriangle();
        long[][] due = {{9, 12, 27, 34}, {16, 1, 1, 1}, {8, 3, 3, 16}, {0, 0, 0, 1}, {16, 16, 1, 1},
            {1, 0, 0, 1}, {15, 15, 225, 226}, {1, 15, 1, 2}};
        for (long[] d : due) {
            int a = (int) d[0];
            int b = (int) d[1];
            Check.fraction("22: " + a + " " + b, x.joint(a, b, 0), x.joint(a, b, 1), d[2], d[3]);
            Check.fraction("22: " + b + " " + a, x.joint(b, a, 0), x.joint(b, a, 1), d[2], d[3]);
        }
        Check.due("22: neither", x.joint(16, 0, 0), Check.NOT);
        Check.due("22: neither, below", x.joint(0, 16, 1), Check.NOT);
        Check.due("22: a below 0", x.joint(-1, 5, 0), Check.BAD);
        Check.due("22: a above", x.joint(17, 5, 0), Check.BAD);
        Check.due("22: b below 0", x.joint(5, -1, 0), Check.BAD);
        Check.due("22: b above", x.joint(5, 17, 0), Check.BAD);
        for (int bad : BAD_PARTS) {
            Check.due("22: BAD ahead of NOT, " + bad, x.joint(16, 0, bad), Check.BAD);
        }
    }

    private static void evening() {
        OneTriangle x = Check.typed("dx");
        long[][] due = {{0, 13, 16}, {3, 13, 16}, {4, 7, 8}, {8, 7, 8}, {15, 7, 8}, {16, 13, 16}, {59, 1, 2}};
        for (long[] d : due) {
            int e = (int) d[0];
            Check.fraction("23: " + e, x.evening(e, 0), x.evening(e, 1), d[1], d[2]);
        }
        x.odds(0, 2, 14);
        x.set(8, 4);
        Check.fraction("23: with DOUBLED 16 at most", x.evening(59, 0), x.evening(59, 1), 0, 1);
        OneTriangle two = Check.typed("ddx");
        two.odds(0, 0, 8);
        two.set(8, 4);
        // MISSED and DOUBLED by 8 each: once each way round.
        Check.fraction("23: just 16", two.evening(59, 0), two.evening(59, 1), 1, 2);
        Check.fraction("23: ODDS stay", two.slips(1, 1, 0), two.slips(1, 1, 1), 1, 2);
        Check.due("23: and are told", two.odds(0, 0, 0), 8);
        Check.due("23: below 0", x.evening(-1, 0), Check.BAD);
        Check.due("23: above 59", x.evening(60, 0), Check.BAD);
        OneTriangle none = new OneTriangle();
        for (int bad : BAD_PARTS) {
            Check.due("23: BAD ahead of NOT, " + bad, none.evening(0, bad), Check.BAD);
        }
        Check.due("23: BAD ahead of NOT", none.evening(60, 0), Check.BAD);
        Check.due("23: no BARS", none.evening(59, 1), Check.NOT);
        OneTriangle each = Check.typed("wx");
        Check.fraction("23: w", each.evening(4, 0), each.evening(4, 1), 13, 16);
        OneTriangle m = Check.typed("mx");
        Check.fraction("23: m", m.evening(8, 0), m.evening(8, 1), 3, 4);
        OneTriangle cue = Check.typed("dcax");
        Check.fraction("23: no CUE is written", cue.evening(0, 0), cue.evening(0, 1), 13, 16);
    }

    private static void prime() {
        OneTriangle x = Check.typed("dx");
        Check.due("24: PRIME", x.prime(0), 4);
        Check.due("24: HELD", x.prime(1), 12);
        x.set(7, 4);
        Check.due("24: LEARN 4", x.prime(0), 2);
        Check.due("24: LEARN 4, HELD", x.prime(1), 6);
        x.set(7, 1);
        x.set(8, 0);
        Check.due("24: never BORED", x.prime(0), 8);
        Check.due("24: to the end", x.prime(1), 52);
        Check.due("24: below 0", x.prime(-1), -2);
        Check.due("24: what 2", x.prime(2), -2);
        OneTriangle y = Check.typed("x");
        Check.due("24: all alike", y.prime(0), 0);
        Check.due("24: all sixty", y.prime(1), 60);
        OneTriangle none = new OneTriangle();
        Check.due("24: no BARS", none.prime(0), -3);
        Check.due("24: BAD ahead of NOT", none.prime(2), -2);
    }

    /** As great again later, but not one behind the other. */
    private static void primeHeld() {
        OneTriangle x = Check.typed("dx");
        x.odds(0, 10, 0);
        x.set(7, 2);
        x.set(8, 3);
        Check.due("24: PRIME before a dip", x.prime(0), 18);
        Check.due("24: HELD up to a dip", x.prime(1), 1);
        Check.fraction("24: at PRIME", x.evening(18, 0), x.evening(18, 1), 9, 16);
        Check.fraction("24: the dip", x.evening(19, 0), x.evening(19, 1), 1, 2);
        Check.fraction("24: behind the dip", x.evening(20, 0), x.evening(20, 1), 9, 16);
    }
}
