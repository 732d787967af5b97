/** The boundary cases that the document names of CUES, two counts and EVENINGS (18 to 24). */
public final class CuesEdgesTest {
    private static final int LEAST = Integer.MIN_VALUE, GREATEST = Integer.MAX_VALUE;
    private static final int[] NO_PARTS = {-1, 2, LEAST, GREATEST};
    private static final String SIX = "dcacbcccdcacbx";

    private CuesEdgesTest() {
    }

    public static void main(String[] args) {
        threeAtMost();
        heardAtTheEnds();
        slipGoesOn();
        safeRefused();
        writeRange();
        writeOfLikeOnes();
        writeJustSoMany();
        writeRefused();
        fewRange();
        fewIsNone();
        fewRefused();
        anewIsTruly();
        anewWithoutTune();
        anewRefused();
        jointOfAll();
        jointRefused();
        eveningsCut();
        eveningsAtTheEnds();
        eveningRefused();
        primeIsTheFirst();
        heldOneBehindTheOther();
        primeRefused();
        Check.close();
    }

    private static void evening(String what, OneTriangle x, int e, long above, long below) {
        Check.fraction(what, x.evening(e, 0), x.evening(e, 1), above, below);
    }

    private static void threeAtMost() {
        Check.says("18", "(bits by their order, 0 on; three of those that there are at most)");
        String[] texts = {"dx", "dcax", "dcacbx", "dcacbccx", "dcacbcccdx", "dcacbcccdcax", SIX};
        for (int cues = 0; cues <= 6; cues++) {
            OneTriangle x = Check.typed(texts[cues]);
            for (int bits = 0; bits <= 63; bits++) {
                int there = bits & (1 << cues) - 1;
                long due = Integer.bitCount(there) > 3 ? Check.BAD : aboveBehindD(Integer.bitCount(there));
                Check.due(cues + " CUES, bits " + bits, x.safe(bits, 0), due);
            }
        }
    }

    /** The d is 13 by 16; each CUE leaves a quarter of what is wrong. */
    private static long aboveBehindD(int written) {
        long whole = 16;
        long wrong = 3;
        for (int i = 0; i < written; i++) {
            whole *= 4;
        }
        return whole - wrong;
    }

    private static void heardAtTheEnds() {
        Check.says("18", "at each he hears it by HEARD (0 to 16; 12 at first) sixteenths, and his SLIP is 0 behind it");
        OneTriangle x = Check.typed("dcax");
        Check.fraction("at first", x.safe(1, 0), x.safe(1, 1), 61, 64);
        x.set(6, 0);
        Check.fraction("0", x.safe(1, 0), x.safe(1, 1), 13, 16);
        x.set(6, 16);
        Check.fraction("16", x.safe(1, 0), x.safe(1, 1), 1, 1);
        OneTriangle y = Check.typed("cadx");
        y.set(6, 16);
        Check.fraction("ahead of the d", y.safe(1, 0), y.safe(1, 1), 13, 16);
        Check.fraction("the STROKE alone", Check.typed("x").safe(0, 0), Check.typed("x").safe(0, 1), 1, 1);
    }

    private static void slipGoesOn() {
        Check.says("18", "his SLIP is 0 behind it; else it goes on. SAFE: the chance that it is 0 at the STROKE.");
        OneTriangle x = Check.typed("dcawx");
        x.odds(0, 16, 0);
        x.odds(1, 0, 16);
        x.set(6, 4);
        // MISSED, then DOUBLED: 0 at the STROKE only if he does not hear it.
        Check.fraction("not written", x.safe(0, 0), x.safe(0, 1), 1, 1);
        Check.fraction("written", x.safe(1, 0), x.safe(1, 1), 3, 4);
        OneTriangle y = Check.typed("ddddddddddcacbccx");
        y.odds(0, 16, 0);
        y.set(6, 4);
        Check.fraction("from -10", y.safe(7, 0), y.safe(7, 1), 37, 64);
        y.odds(0, 0, 16);
        Check.fraction("from 10", y.safe(7, 0), y.safe(7, 1), 37, 64);
    }

    private static void safeRefused() {
        Check.says("18", "SAFE: above, below. BAD (bits 0 to 63); NOT: there are no BARS.");
        OneTriangle none = new OneTriangle();
        OneTriangle x = Check.typed("dcax");
        for (int what = 0; what <= 1; what++) {
            for (int bad : new int[] {-1, 64, 128, LEAST, GREATEST}) {
                Check.due("bits " + bad, x.safe(bad, what), Check.BAD);
                Check.due("BAD is told first, bits " + bad, none.safe(bad, what), Check.BAD);
            }
            for (int bits = 0; bits <= 63; bits++) {
                Check.due("no BARS, bits " + bits, none.safe(bits, what), Check.NOT);
            }
        }
        for (int bad : NO_PARTS) {
            Check.due("what " + bad, x.safe(1, bad), Check.BAD);
            Check.due("BAD is told first, what " + bad, none.safe(0, bad), Check.BAD);
        }
    }

    private static void writeRange() {
        Check.says("19", "WRITE of k (0 to 3, no more than there are)");
        String[] texts = {"dx", "dcax", "dcacbx", "dcacbccx", "dcacbcccdx", "dcacbcccdcax", SIX};
        for (int cues = 0; cues <= 6; cues++) {
            OneTriangle x = Check.typed(texts[cues]);
            for (int k = -1; k <= 7; k++) {
                boolean may = k >= 0 && k <= 3 && k <= cues;
                Check.due(cues + " CUES, " + k, x.write(k), may ? (1 << k) - 1 : -2);
            }
            Check.due("least int", x.write(LEAST), -2);
            Check.due("greatest int", x.write(GREATEST), -2);
        }
    }

    private static void writeOfLikeOnes() {
        Check.says("19", "the k CUES by which it is greatest, of like ones the least bits");
        OneTriangle x = Check.typed("cacbx");
        Check.due("all are safe", x.write(1), 1);
        Check.due("one behind the d", Check.typed("cadcbx").write(1), 2);
        Check.due("two behind it", Check.typed("cadcbccx").write(1), 2);
        Check.due("two behind it, both", Check.typed("cadcbccx").write(2), 6);
        OneTriangle y = Check.typed(SIX);
        y.set(6, 0);
        Check.due("never heard, three", y.write(3), 7);
        y.set(6, 16);
        Check.due("always heard, three", y.write(3), 7);
        OneTriangle z = Check.typed("dcadcbdccx");
        z.set(6, 16);
        // The last alone makes it sure, so with it any other is as good.
        Check.due("always heard, one", z.write(1), 4);
        Check.due("always heard, two", z.write(2), 5);
    }

    private static void writeJustSoMany() {
        Check.says("19", "the k CUES by which it is greatest");
        OneTriangle x = Check.typed("dcawx");
        x.odds(0, 16, 0);
        x.odds(1, 0, 16);
        Check.due("one, though none were better", x.write(1), 1);
        Check.due("none", x.write(0), 0);
        OneTriangle y = Check.typed("dcacbccdx");
        y.odds(0, 16, 0);
        y.set(6, 0);
        for (int k = 0; k <= 3; k++) {
            Check.due("so many, though none does anything: " + k, y.write(k), (1 << k) - 1);
        }
        Check.due("it is 0 by all", y.safe(7, 0), 0);
    }

    private static void writeRefused() {
        Check.says("19", "WRITE, as bits. BAD; NOT: there are no BARS.");
        OneTriangle none = new OneTriangle();
        Check.due("none of no BARS", none.write(0), -3);
        for (int bad : new int[] {-1, 1, 3, 4, LEAST, GREATEST}) {
            Check.due("BAD is told first, " + bad, none.write(bad), -2);
        }
        Check.due("with a FAULT", Check.typed("dcax ").write(0), -3);
        Check.due("with a FAULT there are no CUES", Check.typed("dcax ").write(1), -2);
    }

    private static void fewRange() {
        Check.says("20", "the fewest CUES (0 to 3) by which it is told sixteenths or more");
        OneTriangle x = Check.typed("dcax");
        for (int n = 0; n <= 13; n++) {
            Check.due("none by " + n, x.few(n), 0);
        }
        // 61 by 64 is more than 15 by 16.
        Check.due("14", x.few(14), 1);
        Check.due("15", x.few(15), 1);
        Check.due("16", x.few(16), -1);
        x.set(6, 16);
        Check.due("16, always heard", x.few(16), 1);
        Check.due("16, nothing to miss", Check.typed("p05x").few(16), 0);
        OneTriangle y = Check.typed(SIX);
        y.odds(0, 16, 0);
        y.set(6, 8);
        int[] due = {0, 1, 1, 1, 1, 1, 1, 1, 1, 3, 3, 3, 3, 7, 7, -1, -1};
        for (int n = 0; n <= 16; n++) {
            Check.due("of six by halves, " + n, y.few(n), due[n]);
        }
        OneTriangle z = Check.typed("cacbdccdcdx");
        z.odds(0, 16, 0);
        z.set(6, 8);
        // CUE 2 alone leaves the second d; CUE 3 alone does it by half.
        Check.due("not the first that fit in number", z.few(8), 8);
    }

    private static void fewIsNone() {
        Check.says("20", "FEW, as bits; NONE.");
        OneTriangle x = Check.typed("dx");
        Check.due("no CUES, 13", x.few(13), 0);
        Check.due("no CUES, 14", x.few(14), -1);
        OneTriangle y = Check.typed("cacbcccdcacbdx");
        y.odds(0, 16, 0);
        Check.due("all ahead of the d", y.few(1), -1);
        Check.due("0 or more", y.few(0), 0);
        OneTriangle z = Check.typed(SIX);
        z.odds(0, 16, 0);
        z.set(6, 8);
        Check.due("four would do, three are the most", z.few(15), -1);
    }

    private static void fewRefused() {
        Check.says("20", "BAD (0 to 16); NOT: there are no BARS.");
        OneTriangle none = new OneTriangle();
        for (int bad : new int[] {-1, 17, LEAST, GREATEST}) {
            Check.due("BAD " + bad, Check.typed("dcax").few(bad), -2);
            Check.due("BAD is told first, " + bad, none.few(bad), -2);
        }
        for (int n = 0; n <= 16; n++) {
            Check.due("no BARS, " + n, none.few(n), -3);
        }
    }

    private static void anewIsTruly() {
        Check.says("21", "1, if the chance that it is just this one is truly greater than TRUE at its BAR; else 0");
        // The CUE is heard rightly by 14 of 14 and 2: 7 by 8.
        int[] missed = {1, 2, 3};
        int[] due = {0, 0, 1};
        for (int i = 0; i < missed.length; i++) {
            OneTriangle x = Check.typed("dcacbx");
            x.odds(0, missed[i], 0);
            Check.due("MISSED by " + missed[i], x.anew(0), due[i]);
            Check.due("MISSED by " + missed[i] + ", the other", x.anew(1), due[i]);
        }
        OneTriangle y = Check.typed("cax");
        Check.due("1 is not greater than 1", y.anew(0), 0);
        OneTriangle z = Check.typed("cadcax");
        z.odds(0, 16, 0);
        Check.due("ahead of the d", z.anew(0), 0);
        Check.due("behind it", z.anew(1), 1);
        z.odds(0, 8, 0);
        Check.due("a half each", z.anew(1), 0);
        OneTriangle six = Check.typed("dcacacacacacax");
        six.odds(0, 16, 0);
        Check.due("one of six", six.anew(5), 1);
        six.odds(0, 13, 0);
        Check.due("one of six, against 3 by 16", six.anew(5), 0);
        six.odds(0, 14, 0);
        Check.due("one of six, against 2 by 16", six.anew(5), 1);
    }

    private static void anewWithoutTune() {
        Check.says("21", "(also if no tune is heard)");
        OneTriangle x = Check.typed("dcacbx");
        x.odds(0, 16, 0);
        x.set(0, 0);
        x.set(1, 0);
        Check.due("neither KNOWN nor ALIKE", x.anew(0), 0);
        x.set(1, 16);
        Check.due("ALIKE alone", x.anew(0), 0);
        x.set(0, 1);
        Check.due("KNOWN too", x.anew(0), 1);
        x.set(1, 0);
        x.odds(0, 1, 0);
        Check.due("surely this one", x.anew(0), 1);
        x.odds(0, 0, 0);
        Check.due("surely this one, surely right", x.anew(0), 0);
    }

    private static void anewRefused() {
        Check.says("21", "BAD: no such CUE.");
        OneTriangle x = Check.typed(SIX);
        for (int cue = -1; cue <= 6; cue++) {
            boolean may = cue >= 0 && cue <= 5;
            Check.due("CUE " + cue, x.anew(cue) == -2 ? -2 : 0, may ? 0 : -2);
        }
        Check.due("least int", x.anew(LEAST), -2);
        Check.due("greatest int", x.anew(GREATEST), -2);
        Check.due("no CUES", Check.typed("dx").anew(0), -2);
        Check.due("no BARS", new OneTriangle().anew(0), -2);
        Check.due("with a FAULT", Check.typed("cax ").anew(0), -2);
    }

    private static void jointOfAll() {
        Check.says("22", "the chance that they are right: a FRACTION; NOT: neither can be");
        OneTriangle x = null;
        for (int a = 0; a <= 16; a++) {
            x = new OneTriangle();
            for (int b = 0; b <= 16; b++) {
                int right = a * b;
                int both = right + (16 - a) * (16 - b);
                boolean neither = a + b == 16 && a * b == 0;
                long above = x.joint(a, b, 0);
                long below = x.joint(a, b, 1);
                String told = a + ", " + b;
                Check.due(told + " cannot be", above == Check.NOT && below == Check.NOT ? 1 : 0, neither ? 1 : 0);
                if (!neither) {
                    Check.due(told + " crosswise", above * both, below * right);
                    Check.due(told + " in lowest terms", greatestCommon(above, below), 1);
                }
            }
        }
        Check.fraction("both surely wrong", x.joint(0, 0, 0), x.joint(0, 0, 1), 0, 1);
        Check.fraction("both surely right", x.joint(16, 16, 0), x.joint(16, 16, 1), 1, 1);
        Check.fraction("one surely right", x.joint(16, 1, 0), x.joint(16, 1, 1), 1, 1);
        Check.fraction("one surely wrong", x.joint(15, 0, 0), x.joint(15, 0, 1), 0, 1);
    }

    private static long greatestCommon(long a, long b) {
        return b == 0 ? a : greatestCommon(b, a % b);
    }

    private static void jointRefused() {
        Check.says("22", "JOINT: above, below. BAD; NOT.");
        OneTriangle x = new OneTriangle();
        for (int what = 0; what <= 1; what++) {
            for (int bad : new int[] {-1, 17, LEAST, GREATEST}) {
                Check.due("a " + bad, x.joint(bad, 8, what), Check.BAD);
                Check.due("b " + bad, x.joint(8, bad, what), Check.BAD);
                Check.due("both " + bad, x.joint(bad, bad, what), Check.BAD);
            }
            Check.due("16 and 0", x.joint(16, 0, what), Check.NOT);
            Check.due("0 and 16", x.joint(0, 16, what), Check.NOT);
        }
        for (int bad : NO_PARTS) {
            Check.due("what " + bad, x.joint(8, 8, bad), Check.BAD);
            Check.due("BAD is told first, what " + bad, x.joint(16, 0, bad), Check.BAD);
        }
    }

    private static void eveningsCut() {
        Check.says("23", "by e times LEARN (0 to 4; 1 at first) by 4, cut, less (0 at least)");
        for (int learn = 0; learn <= 4; learn++) {
            OneTriangle x = Check.typed("dx");
            x.odds(0, 12, 0);
            x.set(8, 0);
            x.set(7, learn);
            for (int e = 0; e <= 59; e++) {
                long once = 16 - Math.max(0, 12 - e * learn / 4);
                Check.due("LEARN " + learn + ", " + e, 16 * x.evening(e, 0), once * x.evening(e, 1));
            }
        }
        Check.says("23", "then by e times BORED (0 to 4; 1 at first) by 8, cut, more (with DOUBLED 16 at most)");
        for (int bored = 0; bored <= 4; bored++) {
            OneTriangle x = Check.typed("dx");
            x.odds(0, 0, 2);
            x.set(7, 0);
            x.set(8, bored);
            for (int e = 0; e <= 59; e++) {
                long once = 16 - 2 - Math.min(14, e * bored / 8);
                Check.due("BORED " + bored + ", " + e, 16 * x.evening(e, 0), once * x.evening(e, 1));
            }
        }
    }

    private static void eveningsAtTheEnds() {
        Check.says("23", "EVENINGS 0 to 59");
        OneTriangle x = Check.typed("dx");
        evening("the first", x, 0, 13, 16);
        evening("the last", x, 59, 1, 2);
        x.set(7, 0);
        evening("never LEARNED", x, 59, 3, 8);
        x.set(7, 4);
        x.set(8, 0);
        evening("never BORED", x, 59, 15, 16);
        x.odds(0, 0, 0);
        evening("MISSED is no less than 0", x, 59, 1, 1);
        x.odds(0, 16, 0);
        evening("all MISSED at first", x, 0, 0, 1);
        evening("all but LEARNED", x, 15, 15, 16);
        evening("all LEARNED", x, 16, 1, 1);
        OneTriangle y = Check.typed("ddx");
        y.odds(0, 0, 16);
        y.set(8, 4);
        // With DOUBLED by 16 nothing is MISSED, so the SLIP is 2.
        evening("DOUBLED leaves no room", y, 59, 0, 1);
        y.odds(0, 0, 15);
        evening("room for one", y, 59, 15, 128);
        OneTriangle z = Check.typed("x");
        evening("nothing LOOSE", z, 59, 1, 1);
    }

    private static void eveningRefused() {
        Check.says("23", "TRUE at the STROKE in an EVENING: above, below. BAD; NOT: there are no BARS.");
        OneTriangle none = new OneTriangle();
        OneTriangle x = Check.typed("dx");
        for (int what = 0; what <= 1; what++) {
            for (int bad : new int[] {-1, 60, LEAST, GREATEST}) {
                Check.due("EVENING " + bad, x.evening(bad, what), Check.BAD);
                Check.due("BAD is told first, " + bad, none.evening(bad, what), Check.BAD);
            }
            Check.due("no BARS, the first", none.evening(0, what), Check.NOT);
            Check.due("no BARS, the last", none.evening(59, what), Check.NOT);
        }
        for (int bad : NO_PARTS) {
            Check.due("what " + bad, x.evening(0, bad), Check.BAD);
            Check.due("BAD is told first, what " + bad, none.evening(0, bad), Check.BAD);
        }
    }

    private static void primeIsTheFirst() {
        Check.says("24", "the EVENING in which it is greatest, of like ones the first");
        OneTriangle x = Check.typed("dx");
        x.set(7, 0);
        Check.due("never LEARNED: the first", x.prime(0), 0);
        Check.due("till one is BORED", x.prime(1), 8);
        x.set(8, 0);
        Check.due("always alike", x.prime(0), 0);
        Check.due("all sixty", x.prime(1), 60);
        x.odds(0, 16, 0);
        Check.due("always 0", x.prime(0), 0);
        Check.due("all sixty of 0", x.prime(1), 60);
        x.set(7, 1);
        Check.due("one less each four EVENINGS", x.prime(0), 56);
        Check.due("the last four", x.prime(1), 4);
        x.odds(0, 14, 0);
        Check.due("just none MISSED in the last four", x.prime(0), 56);
        x.odds(0, 13, 0);
        Check.due("none MISSED sooner", x.prime(0), 52);
        Check.due("none MISSED for eight", x.prime(1), 8);
    }

    private static void heldOneBehindTheOther() {
        Check.says("24", "from there on in how many EVENINGS, one behind the other, it is just as great");
        OneTriangle x = Check.typed("dx");
        x.odds(0, 16, 0);
        x.set(7, 4);
        x.set(8, 0);
        Check.due("from 16 on", x.prime(0), 16);
        Check.due("to the end", x.prime(1), 44);
        x.set(8, 4);
        // 16 less e, and by half of e more: least at 16, when it is 8; at 15 it is 1 and 7.
        Check.due("PRIME", x.prime(0), 15);
        Check.due("15, 16 and 17", x.prime(1), 3);
        OneTriangle y = Check.typed("dx");
        y.odds(0, 10, 0);
        y.set(7, 2);
        y.set(8, 3);
        Check.due("ahead of a dip", y.prime(0), 18);
        Check.due("not over it", y.prime(1), 1);
    }

    private static void primeRefused() {
        Check.says("24", "PRIME (what = 0), HELD (1). BAD; NOT: there are no BARS.");
        OneTriangle none = new OneTriangle();
        for (int bad : NO_PARTS) {
            Check.due("what " + bad, Check.typed("dx").prime(bad), -2);
            Check.due("BAD is told first, " + bad, none.prime(bad), -2);
        }
        Check.due("no BARS, PRIME", none.prime(0), -3);
        Check.due("no BARS, HELD", none.prime(1), -3);
        Check.due("with a FAULT", Check.typed("dxx").prime(0), -3);
    }
}
