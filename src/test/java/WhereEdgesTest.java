import java.math.BigInteger;
import java.util.Random;

/** The boundary cases that the document names of NOTES, WHERE, STRIKE, LINE and SLIPS (10 to 17). */
public final class WhereEdgesTest {
    private static final int LEAST = Integer.MIN_VALUE, GREATEST = Integer.MAX_VALUE;
    private static final int[] NO_NUMBERS = {0, -1, 111, LEAST, GREATEST};
    private static final int[] NO_PARTS = {-1, 2, LEAST, GREATEST};

    private WhereEdgesTest() {
    }

    public static void main(String[] args) {
        fourNotes();
        hearIsBad();
        shownIsBad();
        weightsOfTunes();
        weightsOfBars();
        forgotten();
        lowestTerms();
        numbersUpToThatOne();
        doubledBarWithNotes();
        whereIsBad();
        noWayWeighs();
        noWayWeighsByNotes();
        likeliestOfLikeOnes();
        likeliestRefused();
        strikeInTheStroke();
        strikeRefused();
        lineOfLikeOnes();
        lineIsNone();
        lineAtTheLastNumber();
        leaveAtFirst();
        lineByCrossProducts();
        slipsAtTheEnds();
        slipsBelowZero();
        slipsRefused();
        Check.close();
    }

    private static OneTriangle withOdds(String text, int missed, int doubled) {
        OneTriangle x = Check.typed(text);
        for (int kind = 0; kind <= 2; kind++) {
            x.odds(kind, missed, doubled);
        }
        return x;
    }

    private static void where(String what, OneTriangle x, int number, int bar, long above, long below) {
        Check.fraction(what, x.where(number, bar, 0), x.where(number, bar, 1), above, below);
    }

    private static void fourNotes() {
        Check.says("10, 11", "NOTES, 4 at most (0 on)");
        for (int heard = 0; heard <= 4; heard++) {
            OneTriangle x = Check.typed("dx");
            for (int i = 1; i <= 4; i++) {
                Check.due("NOTE " + i, i <= heard ? x.hear(1, 0) : x.shown(1, 0), i);
            }
            long before = x.where(2, 1, 1);
            Check.due("a tune more", x.hear(2, 0), -4);
            Check.due("a BAR more", x.shown(2, 0), -4);
            Check.due("BAD is told first, a tune", x.hear(2, 4), -2);
            Check.due("BAD is told first, a BAR", x.shown(2, 99), -2);
            Check.due("four", x.count(4), 4);
            Check.due("FULL changes nothing", x.where(2, 1, 1), before);
        }
    }

    private static void hearIsBad() {
        Check.says("10", "when he said a number (1 to 110), he heard a tune (0 to 3)");
        OneTriangle x = new OneTriangle();
        for (int bad : NO_NUMBERS) {
            Check.due("number " + bad, x.hear(bad, 0), -2);
        }
        for (int bad : new int[] {-1, 4, LEAST, GREATEST}) {
            Check.due("tune " + bad, x.hear(1, bad), -2);
        }
        Check.due("none is noted", x.count(4), 0);
        Check.due("the least", x.hear(1, 0), 1);
        Check.due("the greatest", x.hear(110, 3), 2);
    }

    private static void shownIsBad() {
        Check.says("11", "a neighbour showed him the number of a BAR (0 to 98)");
        OneTriangle x = new OneTriangle();
        for (int bad : NO_NUMBERS) {
            Check.due("number " + bad, x.shown(bad, 0), -2);
        }
        for (int bad : new int[] {-1, 99, LEAST, GREATEST}) {
            Check.due("BAR " + bad, x.shown(1, bad), -2);
        }
        Check.due("none is noted", x.count(4), 0);
        Check.due("the least", x.shown(1, 0), 1);
        Check.due("the greatest, also without BARS", x.shown(110, 98), 2);
    }

    /** MISSED or not by half: 1 is said in the d, or in what stands behind it. */
    private static void weightsOfTunes() {
        Check.says("10", "it weighs KNOWN (0 to 16; 14 at first), if that BAR is a CUE of that tune");
        OneTriangle x = withOdds("dcbx", 8, 0);
        x.hear(1, 1);
        where("at first", x, 1, 1, 14, 15);
        x.set(0, 16);
        where("16", x, 1, 1, 16, 17);
        x.set(0, 0);
        where("0", x, 1, 1, 0, 1);
        Check.says("10", "ALIKE (2), if it is one of another tune");
        for (int tune : new int[] {0, 2, 3}) {
            OneTriangle y = withOdds("dcbx", 8, 0);
            y.hear(1, tune);
            where("at first", y, 1, 1, 2, 3);
            y.set(1, 16);
            where("16", y, 1, 1, 16, 17);
            y.set(1, 0);
            where("0", y, 1, 1, 0, 1);
        }
        Check.says("10", "STRAY (1), if it is none");
        for (String text : new String[] {"dp01x", "dx", "dcbx"}) {
            OneTriangle z = withOdds(text, 8, 0);
            z.hear(1, 1);
            z.set(0, 1);
            where("at first, " + text, z, 1, 0, 1, 2);
            z.set(2, 16);
            where("16, " + text, z, 1, 0, text.equals("dcbx") ? 16 : 1, text.equals("dcbx") ? 17 : 2);
            z.set(2, 0);
            Check.due("0, " + text, z.where(1, 0, 0), text.equals("dcbx") ? 0 : Check.NOT);
        }
    }

    private static void weightsOfBars() {
        Check.says("11", "it weighs RELY (0 to 16; 13 at first), if it is that BAR, else 16 less that");
        for (int bar = 0; bar <= 1; bar++) {
            OneTriangle x = withOdds("dp01x", 8, 0);
            x.shown(1, bar);
            where("at first, that BAR", x, 1, bar, 13, 16);
            where("at first, another", x, 1, 1 - bar, 3, 16);
            x.set(3, 16);
            where("16, that BAR", x, 1, bar, 1, 1);
            where("16, another", x, 1, 1 - bar, 0, 1);
            x.set(3, 0);
            where("0, that BAR", x, 1, bar, 0, 1);
            where("0, another", x, 1, 1 - bar, 1, 1);
            x.set(3, 8);
            where("8, all alike", x, 1, bar, 1, 2);
        }
        OneTriangle y = withOdds("dp01x", 8, 0);
        y.shown(1, 98);
        where("a BAR that there is not", y, 1, 0, 1, 2);
        y.set(3, 16);
        Check.due("relied on", y.where(1, 0, 0), Check.NOT);
    }

    private static void forgotten() {
        Check.says("12", "All NOTES are forgotten: how many.");
        OneTriangle x = withOdds("dx", 8, 0);
        Check.due("none", x.forget(), 0);
        for (int i = 0; i < 4; i++) {
            x.shown(1, 1);
        }
        where("with four", x, 1, 0, 81, 28642);
        Check.due("four", x.forget(), 4);
        where("without", x, 1, 0, 1, 2);
        Check.due("none is left", x.forget(), 0);
        Check.due("room again", x.hear(1, 0), 1);
    }

    private static void lowestTerms() {
        Check.says("13, 15, 17", "FRACTIONS are told in lowest terms, above and below (0 by 1).");
        OneTriangle x = Check.typed("dwcamdx");
        x.set(4, 90);
        for (int number = 1; number <= 11; number++) {
            if (x.strike(number, 0) < 0) {
                continue;
            }
            lowest("strike " + number, x.strike(number, 0), x.strike(number, 1));
            for (int bar = 0; bar < 6; bar++) {
                lowest("where " + number + ", " + bar, x.where(number, bar, 0), x.where(number, bar, 1));
            }
        }
        for (int slip = -10; slip <= 10; slip++) {
            lowest("slips " + slip, x.slips(5, slip, 0), x.slips(5, slip, 1));
        }
        where("0 by 1", x, 1, 5, 0, 1);
        Check.fraction("0 by 1", x.slips(0, 1, 0), x.slips(0, 1, 1), 0, 1);
        Check.fraction("1 by 1", x.slips(0, 0, 0), x.slips(0, 0, 1), 1, 1);
    }

    private static void lowest(String what, long above, long below) {
        long a = above;
        long b = below;
        while (b != 0) {
            long rest = a % b;
            a = b;
            b = rest;
        }
        Check.due(what + " of " + above + " by " + below + ", common", a, 1);
    }

    private static void numbersUpToThatOne() {
        Check.says("13", "times the weights of all NOTES of numbers up to that one");
        OneTriangle x = withOdds("dp03x", 8, 0);
        x.shown(3, 3);
        for (int number = 1; number <= 2; number++) {
            where("a later NOTE, " + number, x, number, number, 1, 2);
        }
        for (int number = 3; number <= 4; number++) {
            where("its own or an earlier one, " + number, x, number, number, 13, 16);
        }
        OneTriangle y = Check.typed("p03x");
        y.shown(5, 0);
        y.set(3, 16);
        where("a NOTE of a number that is never said", y, 4, 3, 1, 1);
    }

    /** 1 and 2 are said in the d (4 of 16), or 1 in it and 2 behind it (12). */
    private static void doubledBarWithNotes() {
        Check.says("13", "(each by the BAR in which that was said)");
        OneTriangle x = withOdds("dx", 0, 4);
        x.shown(2, 0);
        where("1 is ahead of that NOTE", x, 1, 0, 1, 1);
        where("2 in the d", x, 2, 0, 13, 22);
        where("2 behind it", x, 2, 1, 9, 22);
        x.shown(1, 0);
        where("both in the d", x, 2, 0, 13, 22);
        x.forget();
        x.shown(1, 1);
        where("1 is never behind it", x, 1, 0, 1, 1);
        where("nor does it weigh for 2", x, 2, 0, 1, 4);
        x.set(3, 16);
        Check.due("1 cannot be there", x.where(1, 0, 0), Check.NOT);
        Check.due("so neither can 2", x.where(2, 1, 0), Check.NOT);
        Check.due("nor 3", x.where(3, 1, 0), Check.NOT);
    }

    private static void whereIsBad() {
        Check.says("13", "WHERE: above, below. BAD (a BAR that there is); NOT.");
        OneTriangle x = Check.typed("dx");
        for (int what = 0; what <= 1; what++) {
            for (int bad : NO_NUMBERS) {
                Check.due("number " + bad, x.where(bad, 0, what), Check.BAD);
            }
            for (int bad : new int[] {-1, 2, 98, LEAST, GREATEST}) {
                Check.due("BAR " + bad, x.where(1, bad, what), Check.BAD);
                Check.due("BAD is told first, BAR " + bad, x.where(110, bad, what), Check.BAD);
            }
            Check.due("NOT", x.where(110, 1, what), Check.NOT);
        }
        for (int bad : NO_PARTS) {
            Check.due("what " + bad, x.where(1, 0, bad), Check.BAD);
            Check.due("BAD is told first, what " + bad, x.where(110, 0, bad), Check.BAD);
        }
        Check.due("a refusal as a long", x.where(0, 0, 0), -9223372036854775806L);
        Check.due("another", x.where(110, 0, 0), -9223372036854775805L);
        where("the last BAR", x, 3, 1, 1, 1);
    }

    private static void noWayWeighs() {
        Check.says("13, 14, 15", "NOT: no way weighs.");
        OneTriangle x = Check.typed("p98x");
        for (int number = 1; number <= 110; number++) {
            boolean can = number <= 99;
            int bar = Math.min(number, 99) - 1;
            Check.due("where " + number, x.where(number, bar, 0), can ? 1 : Check.NOT);
            Check.due("likeliest " + number, x.likeliest(number), can ? bar : -3);
            Check.due("strike " + number, x.strike(number, 1), can ? 1 : Check.NOT);
        }
        OneTriangle y = withOdds("p88ddddddddddx", 1, 1);
        Check.due("the last number that can be", y.likeliest(109), 98);
        Check.due("110 can never be", y.likeliest(110), -3);
        where("a BAR in which it cannot be", y, 1, 98, 0, 1);
    }

    private static void noWayWeighsByNotes() {
        Check.says("13, 14, 15", "NOT: no way weighs.");
        OneTriangle x = Check.typed("cax");
        x.hear(2, 0);
        x.set(2, 0);
        where("1 is ahead of it", x, 1, 0, 1, 1);
        Check.due("where()", x.where(2, 1, 0), Check.NOT);
        Check.due("likeliest()", x.likeliest(2), -3);
        Check.due("strike()", x.strike(2, 0), Check.NOT);
        x.forget();
        x.hear(1, 0);
        x.set(0, 0);
        Check.due("all behind it too", x.likeliest(2), -3);
        x.set(0, 1);
        Check.due("the least weight", x.likeliest(2), 1);
    }

    private static void likeliestOfLikeOnes() {
        Check.says("14", "the BAR with the greatest, of like ones the least");
        Check.due("two alike", withOdds("dx", 8, 0).likeliest(1), 0);
        Check.due("the second by a little", withOdds("dx", 9, 0).likeliest(1), 1);
        Check.due("the first by a little", withOdds("dx", 7, 0).likeliest(1), 0);
        OneTriangle x = withOdds("p01ddp01x", 8, 8);
        // 3 is said in BAR 1 by half, if that is DOUBLED; in BAR 2 or the STROKE by a quarter each.
        where("BAR 1", x, 3, 1, 1, 2);
        where("BAR 2", x, 3, 2, 1, 4);
        Check.due("BAR 1 is greatest", x.likeliest(3), 1);
        OneTriangle y = Check.typed("ddx");
        y.odds(0, 8, 0);
        // 1 is said in BAR 0 by half, in BAR 1 and 2 by a quarter each.
        Check.due("the others are less", y.likeliest(1), 0);
        y.shown(1, 0);
        y.set(3, 4);
        // Now they are as 2, 3 and 3.
        Check.due("of the two behind it the least", y.likeliest(1), 1);
    }

    private static void likeliestRefused() {
        Check.says("14", "LIKELIEST. BAD; NOT.");
        OneTriangle x = Check.typed("dx");
        for (int bad : NO_NUMBERS) {
            Check.due("number " + bad, x.likeliest(bad), -2);
            Check.due("no BARS, number " + bad, new OneTriangle().likeliest(bad), -2);
        }
        Check.due("the least number", x.likeliest(1), 0);
        Check.due("the greatest number", x.likeliest(110), -3);
        Check.due("no BARS", new OneTriangle().likeliest(1), -3);
    }

    private static void strikeInTheStroke() {
        Check.says("15", "costs nothing, if it is in the STROKE, else EARLY (0 to 99; 20 at first)");
        OneTriangle x = Check.typed("p01x");
        Check.fraction("surely early", x.strike(1, 0), x.strike(1, 1), 20, 1);
        Check.fraction("surely in the STROKE", x.strike(2, 0), x.strike(2, 1), 0, 1);
        x.set(4, 99);
        Check.fraction("99", x.strike(1, 0), x.strike(1, 1), 99, 1);
        Check.fraction("99, in the STROKE", x.strike(2, 0), x.strike(2, 1), 0, 1);
        x.set(4, 0);
        Check.fraction("0", x.strike(1, 0), x.strike(1, 1), 0, 1);
        OneTriangle y = withOdds("dx", 8, 0);
        Check.fraction("by half", y.strike(1, 0), y.strike(1, 1), 10, 1);
        Check.fraction("the STROKE alone", Check.typed("x").strike(1, 0), Check.typed("x").strike(1, 1), 0, 1);
    }

    private static void strikeRefused() {
        Check.says("15", "STRIKE: above, below. BAD; NOT.");
        OneTriangle x = Check.typed("dx");
        for (int what = 0; what <= 1; what++) {
            for (int bad : NO_NUMBERS) {
                Check.due("number " + bad, x.strike(bad, what), Check.BAD);
            }
            Check.due("NOT", x.strike(110, what), Check.NOT);
            Check.due("no BARS", new OneTriangle().strike(1, what), Check.NOT);
        }
        for (int bad : NO_PARTS) {
            Check.due("what " + bad, x.strike(1, bad), Check.BAD);
            Check.due("BAD is told first, " + bad, x.strike(110, bad), Check.BAD);
        }
    }

    private static void lineOfLikeOnes() {
        Check.says("16", "the number at which it costs least, of like ones the least");
        OneTriangle x = Check.typed("p05x");
        Check.due("the STROKE's", x.line(), 6);
        x.set(4, 0);
        Check.due("all cost nothing", x.line(), 1);
        OneTriangle y = withOdds("ddx", 8, 8);
        // Both MISSED: 1 there; MISSED and DOUBLED: 3; both DOUBLED: 5.
        Check.fraction("at 1", y.strike(1, 0), y.strike(1, 1), 15, 1);
        Check.fraction("at 3", y.strike(3, 0), y.strike(3, 1), 20, 3);
        Check.fraction("at 5", y.strike(5, 0), y.strike(5, 1), 0, 1);
        Check.due("the least cost, not the first below LEAVE", y.line(), 5);
        OneTriangle z = withOdds("dx", 0, 16);
        z.set(2, 0);
        z.hear(3, 0);
        Check.due("1 and 2 cost 20 each", z.line(), 1);
    }

    private static void lineIsNone() {
        Check.says("16", "NONE: that is no less than LEAVE, or there is none.");
        OneTriangle x = Check.typed("p01x");
        x.set(2, 0);
        x.hear(2, 0);
        Check.due("at 1 it costs 20, LEAVE is 30", x.line(), 1);
        x.set(5, 21);
        Check.due("LEAVE 21", x.line(), 1);
        x.set(5, 20);
        Check.due("LEAVE 20", x.line(), -1);
        x.set(5, 19);
        Check.due("LEAVE 19", x.line(), -1);
        x.set(5, 0);
        x.set(4, 0);
        Check.due("0 is no less than 0", x.line(), -1);
        x.set(5, 1);
        Check.due("0 is less than 1", x.line(), 1);
        x.forget();
        x.hear(1, 0);
        Check.due("there is none", x.line(), -1);
        Check.due("no BARS", new OneTriangle().line(), -1);
        OneTriangle y = Check.typed("x");
        y.set(5, 0);
        Check.due("nothing to lose, nothing to leave", y.line(), -1);
        OneTriangle z = Check.typed("p01x");
        z.set(2, 0);
        z.hear(2, 0);
        z.set(4, 99);
        z.set(5, 99);
        Check.due("both 99", z.line(), -1);
        z.set(4, 98);
        Check.due("98 and 99", z.line(), 1);
    }

    private static void lineAtTheLastNumber() {
        Check.says("16", "the number at which it costs least");
        Check.due("the least number", Check.typed("x").line(), 1);
        Check.due("99", Check.typed("p98x").line(), 99);
        Check.due("109", withOdds("p88ddddddddddx", 0, 16).line(), 109);
        Check.due("109, if but one way comes there", withOdds("p88ddddddddddx", 1, 1).line(), 109);
        Check.due("89", withOdds("p88ddddddddddx", 16, 0).line(), 89);
    }

    /** 2 cannot be, so that striking costs EARLY, at 1. */
    private static void leaveAtFirst() {
        Check.says("16", "never to strike costs LEAVE (0 to 99; 30 at first)");
        int[] early = {0, 20, 29, 30, 31, 99};
        int[] due = {1, 1, 1, -1, -1, -1};
        for (int i = 0; i < early.length; i++) {
            OneTriangle x = Check.typed("p01x");
            x.set(2, 0);
            x.hear(2, 0);
            x.set(4, early[i]);
            Check.due("EARLY " + early[i], x.line(), due[i]);
            x.set(5, 99);
            Check.due("LEAVE 99, EARLY " + early[i], x.line(), early[i] < 99 ? 1 : -1);
            x.set(5, 0);
            Check.due("LEAVE 0, EARLY " + early[i], x.line(), -1);
        }
    }

    /** Of all that strike() tells, by big numbers, so that costs a hair apart are told apart. */
    private static void lineByCrossProducts() {
        Check.says("16", "the number at which it costs least, of like ones the least; NONE");
        Random random = new Random(16);
        for (int run = 0; run < 400; run++) {
            OneTriangle x = Check.typed("dwmdwcamdwmcbdp0" + (1 + random.nextInt(4)) + "x");
            for (int kind = 0; kind <= 2; kind++) {
                x.odds(kind, 1 + random.nextInt(8), 1 + random.nextInt(8));
            }
            for (int what = 0; what <= 3; what++) {
                x.set(what, random.nextInt(17));
            }
            x.set(4, run % 2 == 0 ? 1 : 1 + random.nextInt(99));
            x.set(5, 1 + random.nextInt(99));
            // Often no number behind one of these is surely the STROKE's.
            x.set(2, run % 4 < 2 ? 0 : 1 + random.nextInt(16));
            x.hear(13 + random.nextInt(9), random.nextInt(2));
            for (int i = 0; i < 3; i++) {
                x.shown(6 + random.nextInt(14), 10 + random.nextInt(5));
            }
            Check.due("run " + run, x.line(), leastByCrossProducts(x));
        }
    }

    private static int leastByCrossProducts(OneTriangle x) {
        int best = -1;
        int leave = x.set(5, 0);
        x.set(5, leave);
        BigInteger above = BigInteger.valueOf(leave);
        BigInteger below = BigInteger.ONE;
        for (int number = 1; number <= 30; number++) {
            if (x.strike(number, 1) > 0) {
                BigInteger a = BigInteger.valueOf(x.strike(number, 0));
                BigInteger b = BigInteger.valueOf(x.strike(number, 1));
                if (a.multiply(below).compareTo(above.multiply(b)) < 0) {
                    best = number;
                    above = a;
                    below = b;
                }
            }
        }
        return best;
    }

    private static void slipsBelowZero() {
        Check.says("17", "By how many numbers he is ahead of BARS is his SLIP (perhaps below 0).");
        OneTriangle x = Check.typed("dwx");
        x.odds(0, 16, 0);
        x.odds(1, 0, 16);
        Check.due("one behind", x.slips(1, -1, 0), 1);
        Check.due("none ahead", x.slips(1, 1, 0), 0);
        Check.due("both even out", x.slips(2, 0, 0), 1);
        x.odds(0, 0, 16);
        Check.due("one ahead", x.slips(1, 1, 0), 1);
        Check.due("two ahead", x.slips(2, 2, 0), 1);
    }

    private static void slipsAtTheEnds() {
        Check.says("17", "his SLIP is so much (-10 to 10): a FRACTION (NOTES aside)");
        OneTriangle x = withOdds("dwmdwmdwmdx", 16, 0);
        OneTriangle y = withOdds("dwmdwmdwmdx", 0, 16);
        for (int slip = -10; slip <= 10; slip++) {
            Check.fraction("all MISSED, " + slip, x.slips(10, slip, 0), x.slips(10, slip, 1), slip == -10 ? 1 : 0, 1);
            Check.fraction("all DOUBLED, " + slip, y.slips(10, slip, 0), y.slips(10, slip, 1), slip == 10 ? 1 : 0, 1);
        }
        for (int bar = 0; bar <= 10; bar++) {
            Check.fraction("behind " + bar, x.slips(bar, -bar, 0), x.slips(bar, -bar, 1), 1, 1);
        }
        x.shown(1, 3);
        x.set(3, 16);
        Check.fraction("NOTES aside", x.slips(10, -10, 0), x.slips(10, -10, 1), 1, 1);
    }

    private static void slipsRefused() {
        Check.says("17", "SLIPS: above, below. BAD (slip -10 to 10).");
        OneTriangle x = Check.typed("dx");
        for (int what = 0; what <= 1; what++) {
            for (int bad : new int[] {-11, 11, LEAST, GREATEST}) {
                Check.due("SLIP " + bad, x.slips(1, bad, what), Check.BAD);
            }
            for (int bad : new int[] {-1, 2, 98, LEAST, GREATEST}) {
                Check.due("BAR " + bad, x.slips(bad, 0, what), Check.BAD);
            }
            Check.due("no BARS", new OneTriangle().slips(0, 0, what), Check.BAD);
        }
        for (int bad : NO_PARTS) {
            Check.due("what " + bad, x.slips(1, 0, bad), Check.BAD);
        }
        Check.fraction("-10 may be asked", x.slips(1, -10, 0), x.slips(1, -10, 1), 0, 1);
        Check.fraction("10 may be asked", x.slips(1, 10, 0), x.slips(1, 10, 1), 0, 1);
    }
}
