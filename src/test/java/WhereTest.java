/** Promises 10 to 17: notes, where he is, when to strike, slips. */
public final class WhereTest {
    private static final int[] BAD_NUMBERS = {0, -1, 111, Integer.MIN_VALUE, Integer.MAX_VALUE};
    private static final int[] BAD_PARTS = {-1, 2, Integer.MAX_VALUE};

    private WhereTest() {
    }

    public static void main(String[] args) {
        hear();
        shown();
        forget();
        whereWithoutNotes();
        whereWithNotes();
        whereAtTheEdges();
        whereRefused();
        likeliest();
        strike();
        line();
        lineOfOneWay();
        lineBeforeADearOne();
        lineByHairs();
        lineOfSmallCosts();
        slips();
        greatest();
        Check.close();
    }

    private static void hear() {
        OneTriangle x = Check.typed("dcacbx");
        for (int bad : BAD_NUMBERS) {
            Check.due("10: number " + bad, x.hear(bad, 0), -2);
        }
        Check.due("10: tune below 0", x.hear(1, -1), -2);
        Check.due("10: tune 4", x.hear(1, 4), -2);
        Check.due("10: BAD adds none", x.count(4), 0);
        Check.due("10: one", x.hear(2, 0), 1);
        Check.fraction("10: STRAY", x.where(2, 0, 0), x.where(2, 0, 1), 1, 187);
        Check.fraction("10: KNOWN", x.where(2, 1, 0), x.where(2, 1, 1), 182, 187);
        Check.fraction("10: ALIKE", x.where(2, 2, 0), x.where(2, 2, 1), 4, 187);
        Check.due("10: two", x.hear(110, 3), 2);
        Check.due("10: three", x.hear(1, 0), 3);
        Check.due("10: four", x.hear(1, 0), 4);
        Check.due("10: FULL", x.hear(1, 0), -4);
        Check.due("10: BAD ahead of FULL", x.hear(0, 0), -2);
        Check.due("10: so many", x.count(4), 4);
    }

    private static void shown() {
        OneTriangle x = Check.typed("dx");
        for (int bad : BAD_NUMBERS) {
            Check.due("11: number " + bad, x.shown(bad, 0), -2);
        }
        Check.due("11: BAR below 0", x.shown(1, -1), -2);
        Check.due("11: BAR 99", x.shown(1, 99), -2);
        Check.due("11: one", x.shown(2, 1), 1);
        Check.fraction("11: another BAR", x.where(2, 0, 0), x.where(2, 0, 1), 3, 172);
        Check.fraction("11: that BAR", x.where(2, 1, 0), x.where(2, 1, 1), 169, 172);
        Check.due("11: two", x.shown(2, 1), 2);
        Check.fraction("11: both weigh", x.where(2, 0, 0), x.where(2, 0, 1), 9, 2206);
        Check.due("11: a BAR that there is not", x.shown(110, 98), 3);
        Check.due("11: four", x.shown(1, 0), 4);
        Check.due("11: FULL", x.shown(1, 0), -4);
        Check.due("11: hear() too", x.hear(1, 0), -4);
        Check.due("11: BAD ahead of FULL", x.shown(1, 99), -2);
    }

    private static void forget() {
        OneTriangle x = Check.typed("dx");
        Check.due("12: none", x.forget(), 0);
        x.shown(2, 1);
        x.hear(2, 1);
        Check.due("12: with NOTES", x.where(2, 0, 1), 172);
        Check.due("12: two", x.forget(), 2);
        Check.due("12: none is left", x.count(4), 0);
        Check.fraction("12: without NOTES", x.where(2, 0, 0), x.where(2, 0, 1), 1, 14);
        Check.due("12: one anew", x.hear(1, 1), 1);
    }

    private static void whereWithoutNotes() {
        OneTriangle x = Check.typed("dx");
        Check.fraction("13: 1 in 0", x.where(1, 0, 0), x.where(1, 0, 1), 7, 8);
        Check.fraction("13: 1 in 1", x.where(1, 1, 0), x.where(1, 1, 1), 1, 8);
        Check.fraction("13: 2 in 0", x.where(2, 0, 0), x.where(2, 0, 1), 1, 14);
        Check.fraction("13: 2 in 1", x.where(2, 1, 0), x.where(2, 1, 1), 13, 14);
        Check.fraction("13: 3 in 0", x.where(3, 0, 0), x.where(3, 0, 1), 0, 1);
        Check.fraction("13: 3 in 1", x.where(3, 1, 0), x.where(3, 1, 1), 1, 1);
        Check.due("13: 4 is not said", x.where(4, 1, 0), Check.NOT);
        OneTriangle y = Check.typed("p03dp02cawp01cbmx");
        Check.fraction("13: 11 in 8", y.where(11, 8, 0), y.where(11, 8, 1), 16, 1319);
        Check.fraction("13: 12 in 10", y.where(12, 10, 0), y.where(12, 10, 1), 989, 3057);
    }

    private static void whereWithNotes() {
        OneTriangle x = Check.typed("dx");
        x.shown(2, 1);
        x.set(3, 16);
        Check.fraction("13: a later NOTE aside", x.where(1, 0, 0), x.where(1, 0, 1), 7, 8);
        Check.fraction("13: its own NOTE", x.where(2, 1, 0), x.where(2, 1, 1), 1, 1);
        Check.due("13: an earlier NOTE", x.where(3, 1, 0), Check.NOT);
        x.set(3, 0);
        Check.fraction("13: relied on not at all", x.where(2, 0, 0), x.where(2, 0, 1), 1, 1);
        x.forget();
        x.hear(1, 0);
        x.set(2, 0);
        Check.due("13: no way weighs", x.where(1, 0, 1), Check.NOT);
        OneTriangle y = Check.typed("dcax");
        y.odds(0, 4, 4);
        y.hear(2, 0);
        y.shown(1, 1);
        // 1 in BAR 0: 3 each; 2 there too (4, STRAY 1), or in BAR 1 (8, KNOWN 14); 1 in BAR 1 (4, 13, 1).
        Check.fraction("13: two NOTES, 0", y.where(2, 0, 0), y.where(2, 0, 1), 3, 100);
        Check.fraction("13: two NOTES, 1", y.where(2, 1, 0), y.where(2, 1, 1), 21, 25);
        Check.fraction("13: two NOTES, 2", y.where(2, 2, 0), y.where(2, 2, 1), 13, 100);
    }

    private static void whereAtTheEdges() {
        OneTriangle x = Check.typed("p88ddddddddddx");
        x.odds(0, 0, 16);
        Check.fraction("13: 109 at the last", x.where(109, 98, 0), x.where(109, 98, 1), 1, 1);
        Check.fraction("13: 108 in the last d", x.where(108, 97, 0), x.where(108, 97, 1), 1, 1);
        Check.due("13: 110 never", x.where(110, 98, 0), Check.NOT);
        x.odds(0, 16, 0);
        Check.fraction("13: 89 at the last", x.where(89, 98, 0), x.where(89, 98, 1), 1, 1);
        Check.fraction("13: 89 not before", x.where(89, 88, 0), x.where(89, 88, 1), 0, 1);
        Check.due("13: 90 never", x.where(90, 98, 0), Check.NOT);
        OneTriangle y = Check.typed("p98x");
        Check.fraction("13: 99 in 98", y.where(99, 98, 0), y.where(99, 98, 1), 1, 1);
        Check.due("13: 100 never", y.where(100, 98, 1), Check.NOT);
    }

    private static void whereRefused() {
        OneTriangle x = Check.typed("dx");
        for (int bad : BAD_NUMBERS) {
            Check.due("13: number " + bad, x.where(bad, 0, 0), Check.BAD);
            Check.due("14: number " + bad, x.likeliest(bad), -2);
            Check.due("15: number " + bad, x.strike(bad, 0), Check.BAD);
        }
        for (int bad : BAD_PARTS) {
            Check.due("13: what " + bad, x.where(1, 0, bad), Check.BAD);
            Check.due("15: what " + bad, x.strike(1, bad), Check.BAD);
            Check.due("17: what " + bad, x.slips(0, 0, bad), Check.BAD);
        }
        Check.due("13: BAR below 0", x.where(1, -1, 0), Check.BAD);
        Check.due("13: BAR above", x.where(1, 2, 0), Check.BAD);
        Check.due("13: BAD ahead of NOT", x.where(99, 2, 0), Check.BAD);
        Check.due("15: BAD ahead of NOT", x.strike(99, 2), Check.BAD);
        Check.due("17: BAR below 0", x.slips(-1, 0, 0), Check.BAD);
        Check.due("17: BAR above", x.slips(2, 0, 0), Check.BAD);
        Check.due("17: SLIP 11", x.slips(0, 11, 0), Check.BAD);
        Check.due("17: SLIP -11", x.slips(0, -11, 0), Check.BAD);
        Check.due("17: no BARS", new OneTriangle().slips(0, 0, 0), Check.BAD);
    }

    private static void likeliest() {
        OneTriangle x = Check.typed("dx");
        Check.due("14: of 1", x.likeliest(1), 0);
        Check.due("14: of 2", x.likeliest(2), 1);
        Check.due("14: of 3", x.likeliest(3), 1);
        Check.due("14: of 4", x.likeliest(4), -3);
        x.odds(0, 8, 4);
        Check.due("14: of like ones the least", x.likeliest(1), 0);
        x.odds(0, 9, 4);
        Check.due("14: not the least", x.likeliest(1), 1);
        x.shown(1, 0);
        Check.due("14: by NOTES", x.likeliest(1), 0);
        Check.due("14: no BARS", new OneTriangle().likeliest(1), -3);
    }

    private static void strike() {
        OneTriangle x = Check.typed("dx");
        Check.fraction("15: at 1", x.strike(1, 0), x.strike(1, 1), 35, 2);
        Check.fraction("15: at 2", x.strike(2, 0), x.strike(2, 1), 10, 7);
        Check.fraction("15: at 3", x.strike(3, 0), x.strike(3, 1), 0, 1);
        Check.due("15: at 4", x.strike(4, 0), Check.NOT);
        Check.due("15: at 4, below", x.strike(4, 1), Check.NOT);
        x.set(4, 0);
        Check.fraction("15: EARLY 0", x.strike(1, 0), x.strike(1, 1), 0, 1);
        x.set(4, 99);
        Check.fraction("15: EARLY 99", x.strike(2, 0), x.strike(2, 1), 99, 14);
        x.shown(2, 1);
        Check.fraction("15: by NOTES", x.strike(2, 0), x.strike(2, 1), 297, 172);
        Check.due("15: no BARS", new OneTriangle().strike(1, 1), Check.NOT);
    }

    private static void line() {
        OneTriangle x = Check.typed("dx");
        Check.due("16: nothing at 3", x.line(), 3);
        x.set(4, 0);
        Check.due("16: of like ones the least", x.line(), 1);
        x.set(5, 0);
        Check.due("16: no less than LEAVE", x.line(), -1);
        x.set(4, 20);
        x.set(5, 1);
        Check.due("16: less than LEAVE", x.line(), 3);
        x.odds(0, 2, 0);
        // At 1 it is 35 by 2, at 2 it is 0.
        Check.due("16: no 3", x.line(), 2);
        x.odds(0, 16, 0);
        Check.due("16: at 1", x.line(), 1);
        x.hear(1, 0);
        x.set(2, 0);
        Check.due("16: there is none", x.line(), -1);
        Check.due("16: no BARS", new OneTriangle().line(), -1);
        OneTriangle y = Check.typed("p03x");
        y.set(4, 30);
        Check.due("16: at the STROKE", y.line(), 4);
        y.shown(4, 0);
        y.set(3, 16);
        Check.due("16: just LEAVE is not less", y.line(), -1);
        y.set(4, 29);
        Check.due("16: all alike, the first", y.line(), 1);
    }

    /** What weighs least, one part of 16 to the 10th, is a way too. */
    private static void lineOfOneWay() {
        OneTriangle x = Check.typed("ddddddddddx");
        x.odds(0, 1, 1);
        Check.due("16: ten times DOUBLED", x.line(), 21);
        Check.fraction("13: ten times DOUBLED", x.where(21, 10, 0), x.where(21, 10, 1), 1, 1);
    }

    /** The last number that can be said costs more than an earlier one. */
    private static void lineBeforeADearOne() {
        OneTriangle x = Check.typed("dx");
        x.odds(0, 8, 4);
        x.set(2, 0);
        x.set(3, 15);
        x.set(4, 1);
        x.shown(2, 0);
        x.hear(3, 0);
        Check.fraction("15: at 1", x.strike(1, 0), x.strike(1, 1), 1, 2);
        Check.fraction("15: at 2", x.strike(2, 0), x.strike(2, 1), 15, 16);
        Check.due("15: at 3", x.strike(3, 0), Check.NOT);
        Check.due("16: at 1", x.line(), 1);
    }

    /** All costs below 1, so that they differ behind the whole part alone. */
    private static void lineOfSmallCosts() {
        java.util.Random random = new java.util.Random(41);
        for (int run = 0; run < 300; run++) {
            OneTriangle x = new OneTriangle();
            Model model = new Model();
            StringBuilder text = new StringBuilder();
            for (int i = 0; i < 4; i++) {
                text.append("dwm".charAt(random.nextInt(3))).append(random.nextBoolean() ? "ca" : "p01");
            }
            text.append('x');
            for (int i = 0; i < text.length(); i++) {
                x.type(text.charAt(i));
                model.type(text.charAt(i));
            }
            x.set(4, 1);
            model.set(4, 1);
            for (int i = 0; i < 3; i++) {
                int number = 6 + random.nextInt(8);
                int bar = random.nextInt(9);
                x.shown(number, bar);
                model.shown(number, bar);
            }
            if (run % 2 == 0) {
                // Behind a number that cannot be heard there is none that is surely the STROKE's.
                int last = 8 + run % 5;
                x.set(2, 0);
                model.set(2, 0);
                x.hear(last, 0);
                model.hear(last, 0);
            }
            Check.due("16: by parts of 1, run " + run, x.line(), model.line());
        }
    }

    /** Costs whose difference is less than a double tells, by the model's big numbers. */
    private static void lineByHairs() {
        String[] texts = {"dwmdwmdwmdx", "p05dwcap09mdwcbmdx", "dddddddx"};
        for (String text : texts) {
            OneTriangle x = Check.typed(text);
            Model model = new Model();
            for (int i = 0; i < text.length(); i++) {
                model.type(text.charAt(i));
            }
            int[][] settings = {{0, 16}, {1, 15}, {2, 15}, {3, 7}, {4, 99}, {5, 99}};
            for (int[] s : settings) {
                x.set(s[0], s[1]);
                model.set(s[0], s[1]);
            }
            for (int kind = 0; kind < 3; kind++) {
                x.odds(kind, 5, 5);
                model.odds(kind, 5, 5);
            }
            int last = x.count(0);
            Check.due("16: " + text, x.line(), model.line());
            x.hear(2, 0);
            model.hear(2, 0);
            x.shown(last - 1, last - 1);
            model.shown(last - 1, last - 1);
            x.hear(last, 1);
            model.hear(last, 1);
            x.hear(4, 1);
            model.hear(4, 1);
            Check.due("16: with NOTES " + text, x.line(), model.line());
            for (int number = last - 3; number <= last + 3; number++) {
                Check.fraction("15: " + number + " " + text, x.strike(number, 0), x.strike(number, 1),
                    model.strike(number, 0), model.strike(number, 1));
            }
        }
    }

    private static void slips() {
        OneTriangle x = Check.typed("dwx");
        long[][] due = {{0, 1}, {1, 128}, {37, 256}, {163, 256}, {51, 256}, {3, 256}, {0, 1}};
        for (int slip = -3; slip <= 3; slip++) {
            long[] d = due[slip + 3];
            Check.fraction("17: SLIP " + slip, x.slips(2, slip, 0), x.slips(2, slip, 1), d[0], d[1]);
        }
        Check.fraction("17: ahead of all", x.slips(0, 0, 0), x.slips(0, 0, 1), 1, 1);
        Check.fraction("17: the BAR itself aside", x.slips(1, 1, 0), x.slips(1, 1, 1), 1, 16);
        x.shown(1, 0);
        x.set(3, 16);
        Check.fraction("17: NOTES aside", x.slips(1, -1, 0), x.slips(1, -1, 1), 1, 8);
        OneTriangle y = Check.typed("ddddddddddx");
        y.odds(0, 0, 16);
        Check.fraction("17: SLIP 10", y.slips(10, 10, 0), y.slips(10, 10, 1), 1, 1);
        Check.fraction("17: SLIP 9", y.slips(10, 9, 0), y.slips(10, 9, 1), 0, 1);
        Check.fraction("17: SLIP 9 one before", y.slips(9, 9, 0), y.slips(9, 9, 1), 1, 1);
        y.odds(0, 16, 0);
        Check.fraction("17: SLIP -10", y.slips(10, -10, 0), y.slips(10, -10, 1), 1, 1);
        y.odds(0, 1, 15);
        Check.fraction("17: ten times one of sixteen", y.slips(10, -10, 0), y.slips(10, -10, 1), 1, 1L << 40);
    }

    /** The greatest weights that there can be still fit: 16 to the 14th. */
    private static void greatest() {
        OneTriangle x = Check.typed("ddddddddddx");
        x.odds(0, 1, 0);
        x.set(2, 16);
        for (int i = 0; i < 4; i++) {
            x.hear(1, 0);
        }
        Check.fraction("13: 15 by 16", x.where(1, 0, 0), x.where(1, 0, 1), 15, 16);
        Check.fraction("13: all missed", x.where(1, 10, 0), x.where(1, 10, 1), 1, 1L << 40);
        x.set(4, 99);
        Check.fraction("15: 99 times", x.strike(1, 0), x.strike(1, 1), 99 * ((1L << 40) - 1), 1L << 40);
        Check.due("16: the last number", x.line(), 11);
    }
}
