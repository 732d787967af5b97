/** The boundary cases that the document names of PLAYERS, THE RECORD and NIGHTS (25 to 33). */
public final class LooksEdgesTest {
    private static final int LEAST = Integer.MIN_VALUE, GREATEST = Integer.MAX_VALUE;

    private LooksEdgesTest() {
    }

    public static void main(String[] args) {
        eightPlayers();
        playerIsBad();
        playerRefused();
        allLeave();
        threeBarsAhead();
        fromBarZeroOn();
        oneLookABar();
        worthOfNone();
        worthAtTheEnds();
        leastBits();
        worthIsBad();
        lookOfLikeOnes();
        notLookedAtYet();
        lookIsNone();
        lookIsBad();
        fromRange();
        twentyNumbers();
        numberIsBad();
        wrongAtZero();
        wrongIsNone();
        wrongIsBad();
        blameOfKinds();
        blameIsNone();
        lotsOfTheEnds();
        seedsThatWrap();
        barByBar();
        nightsGoOn();
        nightRefused();
        Check.close();
    }

    private static OneTriangle players(int... barsAndWorths) {
        OneTriangle x = new OneTriangle();
        for (int i = 0; i + 1 < barsAndWorths.length; i += 2) {
            x.player(barsAndWorths[i], barsAndWorths[i + 1]);
        }
        return x;
    }

    private static OneTriangle recorded(String text, int from, int... numbers) {
        OneTriangle x = Check.typed(text);
        x.from(from);
        for (int number : numbers) {
            x.said(number);
        }
        return x;
    }

    private static void eightPlayers() {
        Check.says("25", "PLAYERS, 8 at most (0 on)");
        OneTriangle x = new OneTriangle();
        for (int n = 1; n <= 8; n++) {
            Check.due("PLAYER " + n, x.player(10 * n, n), n);
        }
        Check.due("FULL", x.player(1, 99), -4);
        Check.due("BAD is told first", x.player(0, 99), -2);
        Check.due("eight", x.count(5), 8);
        Check.due("all are looked at", x.worth(1), 255);
        Check.due("FULL changes nothing", x.worth(0), 36);
        Check.due("the first is 0", x.look(7), 0);
        Check.due("the last is 7", x.look(77), 7);
    }

    private static void playerIsBad() {
        Check.says("25", "each comes in in a BAR (1 to 98), and is worth 1 to 99");
        OneTriangle x = new OneTriangle();
        for (int bad : new int[] {0, -1, 99, LEAST, GREATEST}) {
            Check.due("BAR " + bad, x.player(bad, 1), -2);
        }
        for (int bad : new int[] {0, -1, 100, LEAST, GREATEST}) {
            Check.due("worth " + bad, x.player(1, bad), -2);
        }
        Check.due("none came", x.count(5), 0);
        Check.due("the least", x.player(1, 1), 1);
        Check.due("the greatest", x.player(98, 99), 2);
        Check.due("both", x.worth(0), 100);
    }

    private static void playerRefused() {
        Check.says("25", "A PLAYER more: how many. BAD; FULL.");
        OneTriangle x = players(5, 1, 5, 1, 5, 1, 5, 1, 5, 1, 5, 1, 5, 1);
        Check.due("BAD ahead of the last", x.player(99, 1), -2);
        Check.due("the last", x.player(5, 1), 8);
        Check.due("FULL", x.player(5, 1), -4);
        Check.due("BAD still, its BAR", x.player(99, 1), -2);
        Check.due("BAD still, its worth", x.player(5, 0), -2);
        Check.due("eight", x.leave(), 8);
    }

    private static void allLeave() {
        Check.says("26", "All PLAYERS are gone: how many.");
        OneTriangle x = new OneTriangle();
        Check.due("none", x.leave(), 0);
        for (int n = 0; n < 8; n++) {
            x.player(98 - n, 9);
        }
        Check.due("eight", x.leave(), 8);
        Check.due("none is left", x.leave(), 0);
        Check.due("room again", x.player(5, 2), 1);
        Check.due("the new one alone", x.worth(0), 2);
        Check.due("it is PLAYER 0", x.look(2), 0);
    }

    private static void threeBarsAhead() {
        Check.says("25, 28", "if the conductor looks at it in one of the three BARS ahead");
        OneTriangle x = players(50, 1, 50, 1, 50, 1, 50, 1);
        Check.due("three of four", x.worth(0), 3);
        int[] due = {-1, 0, 1, 2, -1, -1};
        for (int i = 0; i < due.length; i++) {
            Check.due("BAR " + (46 + i), x.look(46 + i), due[i]);
        }
        OneTriangle y = players(50, 1, 51, 1, 51, 1, 51, 1, 51, 1);
        // BARS 47 to 50 are four looks.
        Check.due("four of five", y.worth(0), 4);
        Check.due("the last look", y.look(50), 3);
        OneTriangle z = players(98, 5, 98, 5, 98, 5, 98, 5);
        Check.due("at the end", z.worth(0), 15);
        Check.due("BAR 98 itself is too late", z.look(98), -1);
    }

    private static void fromBarZeroOn() {
        Check.says("25, 28", "(BAR 0 on)");
        int[] most = {1, 2, 3, 3};
        for (int bar = 1; bar <= 4; bar++) {
            OneTriangle x = players(bar, 1, bar, 1, bar, 1, bar, 1);
            Check.due("ahead of BAR " + bar, x.worth(0), most[bar - 1]);
        }
        Check.due("BAR 1 is looked ahead of in 0", players(1, 7).look(0), 0);
        Check.due("and not in 1", players(1, 7).look(1), -1);
        Check.due("BAR 4 not in 0", players(4, 7).look(0), -1);
        Check.due("BAR 4 in 1", players(4, 7).look(1), 0);
        Check.due("BAR 3 in 0", players(3, 7).look(0), 0);
    }

    private static void oneLookABar() {
        Check.says("25, 27", "one look a BAR");
        OneTriangle x = players(1, 10, 1, 20, 2, 1, 3, 1, 4, 1);
        Check.due("BAR 0 has one", x.worth(0), 23);
        Check.due("by whom", x.worth(1), 30);
        OneTriangle y = players(1, 2, 2, 2, 2, 2, 3, 2, 3, 2, 3, 2, 4, 2, 4, 2);
        Check.due("four looks ahead of BAR 4", y.worth(0), 8);
    }

    private static void worthOfNone() {
        Check.says("27", "WORTH: the most of all together");
        OneTriangle x = new OneTriangle();
        Check.due("no PLAYERS", x.worth(0), 0);
        Check.due("no bits", x.worth(1), 0);
    }

    private static void worthAtTheEnds() {
        Check.says("27", "WORTH: the most of all together");
        OneTriangle x = players(11, 99, 12, 99, 13, 99, 14, 99, 15, 99, 16, 99, 17, 99, 18, 99);
        Check.due("eight times 99", x.worth(0), 792);
        Check.due("all", x.worth(1), 255);
        OneTriangle y = players(1, 1, 1, 1, 1, 1, 1, 1, 1, 1, 1, 1, 1, 1, 1, 99);
        Check.due("the last of eight", y.worth(0), 99);
        Check.due("its bit", y.worth(1), 128);
        // One that comes in sooner is passed over for two others.
        OneTriangle z = players(1, 9, 2, 5, 2, 8);
        Check.due("two looks", z.worth(0), 17);
        Check.due("of three", z.worth(1), 5);
    }

    private static void leastBits() {
        Check.says("27", "the PLAYERS by whom (of like ones the least bits)");
        Check.due("two alike", players(1, 5, 1, 5).worth(1), 1);
        Check.due("eight alike, three looks", players(9, 5, 9, 5, 9, 5, 9, 5, 9, 5, 9, 5, 9, 5, 9, 5).worth(1), 7);
        Check.due("the last of them is worth more", players(9, 5, 9, 5, 9, 5, 9, 6).worth(1), 11);
        Check.due("of two and two alike", players(1, 4, 1, 4, 2, 3, 2, 3).worth(1), 5);
        Check.due("a later one of like worth is left", players(1, 4, 2, 4, 2, 4).worth(1), 3);
    }

    private static void worthIsBad() {
        Check.says("27", "WORTH (what = 0), LOOKED AT, as bits (1). BAD.");
        OneTriangle x = players(5, 5);
        for (int bad : new int[] {-1, 2, LEAST, GREATEST}) {
            Check.due("what " + bad, x.worth(bad), -2);
        }
    }

    private static void lookOfLikeOnes() {
        Check.says("28", "that he can look at then and that comes in soonest, of like ones the least");
        OneTriangle x = players(5, 1, 4, 1, 4, 1, 6, 1);
        int[] due = {-1, 1, 2, 0, 3, -1};
        for (int bar = 0; bar < due.length; bar++) {
            Check.due("BAR " + bar, x.look(bar), due[bar]);
        }
        OneTriangle y = players(3, 1, 2, 1, 1, 1);
        Check.due("the soonest is the last told", y.look(0), 2);
        Check.due("then", y.look(1), 1);
        Check.due("then", y.look(2), 0);
        OneTriangle z = players(2, 9, 2, 1, 2, 9);
        Check.due("of these", z.look(0), 0);
        Check.due("one is not of these", z.look(1), 2);
    }

    private static void notLookedAtYet() {
        Check.says("28", "from BAR 0 on he looks in each at that one of these, not looked at yet");
        OneTriangle x = players(3, 1, 6, 1, 6, 1);
        int[] due = {0, -1, -1, 1, 2, -1, -1};
        for (int bar = 0; bar < due.length; bar++) {
            Check.due("BAR " + bar, x.look(bar), due[bar]);
        }
        Check.due("asked out of order", x.look(0), 0);
    }

    private static void lookIsNone() {
        Check.says("28", "LOOK; NONE. BAD.");
        OneTriangle x = players(10, 1);
        for (int bar = 0; bar <= 98; bar++) {
            Check.due("BAR " + bar, x.look(bar), bar == 7 ? 0 : -1);
            Check.due("no PLAYERS, BAR " + bar, new OneTriangle().look(bar), -1);
        }
    }

    private static void lookIsBad() {
        Check.says("28", "LOOK in a BAR (0 to 98)");
        for (int bad : new int[] {-1, 99, LEAST, GREATEST}) {
            Check.due("BAR " + bad, players(10, 1).look(bad), -2);
            Check.due("no PLAYERS, BAR " + bad, new OneTriangle().look(bad), -2);
        }
    }

    private static void fromRange() {
        Check.says("29", "From which BAR THE RECORD is: what it was. BAD.");
        Check.due("what it was", recorded("x", 7).from(7), 7);
        Check.says("29", "one in each BAR from a told one (0 to 98; 0 at first) on");
        OneTriangle x = new OneTriangle();
        Check.due("at first", x.from(98), 0);
        for (int bad : new int[] {-1, 99, LEAST, GREATEST}) {
            Check.due("BAR " + bad, x.from(bad), -2);
        }
        Check.due("the greatest, BAD changed nothing", x.from(0), 98);
        Check.due("the least", x.from(5), 0);
        x.said(99);
        x.from(98);
        Check.due("99 is right in BAR 98", x.wrong(0), -1);
    }

    private static void twentyNumbers() {
        Check.says("30", "numbers (1 to 110) that he said, 20 at most");
        OneTriangle x = new OneTriangle();
        for (int n = 1; n <= 20; n++) {
            Check.due("number " + n, x.said(n), n);
        }
        Check.due("FULL", x.said(5), -4);
        Check.due("BAD is told first", x.said(111), -2);
        Check.due("twenty", x.count(6), 20);
        Check.due("FULL changes nothing", x.wrong(1), 0);
        OneTriangle y = recorded("x", 0, 1, 2, 3, 4, 5, 6, 7, 8, 9, 10, 11, 12, 13, 14, 15, 16, 17, 18, 19, 19);
        Check.due("the last place can be wrong", y.wrong(0), 19);
        Check.due("that one alone", y.wrong(1), 1);
    }

    private static void numberIsBad() {
        Check.says("30", "A number more in THE RECORD: how many. BAD; FULL.");
        OneTriangle x = new OneTriangle();
        for (int bad : new int[] {0, -1, 111, LEAST, GREATEST}) {
            Check.due("number " + bad, x.said(bad), -2);
        }
        Check.due("none came", x.count(6), 0);
        Check.due("the least", x.said(1), 1);
        Check.due("the greatest", x.said(110), 2);
    }

    private static void wrongAtZero() {
        Check.says("31", "it is not 1 more than the one ahead (at 0: than that BAR)");
        Check.due("1 in BAR 0", recorded("x", 0, 1).wrong(0), -1);
        Check.due("2 in BAR 0", recorded("x", 0, 2).wrong(0), 0);
        Check.due("1 in BAR 1", recorded("x", 1, 1).wrong(0), 0);
        Check.due("99 in BAR 98", recorded("x", 98, 99).wrong(0), -1);
        Check.due("98 in BAR 98", recorded("x", 98, 98).wrong(0), 0);
        Check.due("behind a wrong one", recorded("x", 0, 5, 6, 7).wrong(1), 1);
        Check.due("the same", recorded("x", 4, 5, 5).wrong(0), 1);
        Check.due("two more", recorded("x", 4, 5, 7).wrong(0), 1);
        Check.due("one less", recorded("x", 4, 5, 4).wrong(0), 1);
        Check.due("all", recorded("x", 0, 110, 110, 110).wrong(1), 3);
    }

    private static void wrongIsNone() {
        Check.says("31", "WRONG: the first place (0 on)");
        Check.due("the first of all", recorded("x", 0, 9, 8, 7).wrong(0), 0);
        Check.due("the first of two", recorded("x", 0, 1, 8, 7).wrong(0), 1);
        Check.says("31", "WRONG: the place (what = 0; NONE), how many (1). BAD.");
        OneTriangle x = new OneTriangle();
        Check.due("empty", x.wrong(0), -1);
        Check.due("empty, none", x.wrong(1), 0);
        x.from(98);
        Check.due("empty from 98", x.wrong(0), -1);
        OneTriangle y = recorded("x", 7, 8, 9, 10);
        Check.due("all right", y.wrong(0), -1);
        Check.due("all right, none", y.wrong(1), 0);
    }

    private static void wrongIsBad() {
        Check.says("31", "WRONG: the place (what = 0; NONE), how many (1). BAD.");
        for (int bad : new int[] {-1, 2, LEAST, GREATEST}) {
            Check.due("what " + bad, recorded("x", 0, 1).wrong(bad), -2);
            Check.due("empty, what " + bad, new OneTriangle().wrong(bad), -2);
        }
    }

    private static void blameOfKinds() {
        Check.says("32", "the kind of the BAR ahead of that place: 0 d, 1 w, 2 m");
        String text = "dwmp01cax";
        int[] due = {-1, 0, 1, 2, -1, -1};
        for (int bar = 0; bar < due.length; bar++) {
            Check.due("place 0 in BAR " + bar, recorded(text, bar, 90).blame(), due[bar]);
        }
        Check.due("place 1", recorded(text, 0, 1, 1).blame(), 0);
        Check.due("place 2", recorded(text, 0, 1, 2, 4).blame(), 1);
        Check.due("place 3", recorded(text, 0, 1, 2, 3, 5).blame(), 2);
        Check.due("the first of two", recorded(text, 0, 1, 1, 1).blame(), 0);
    }

    private static void blameIsNone() {
        Check.says("32", "NONE: another one, or there is none");
        Check.due("a plain one", recorded("p01dx", 1, 9).blame(), -1);
        Check.due("a CUE", recorded("cadx", 1, 9).blame(), -1);
        Check.due("the STROKE", recorded("dx", 2, 9).blame(), -1);
        Check.due("the last LOOSE one", recorded("dx", 1, 9).blame(), 0);
        Check.due("none ahead of BAR 0", recorded("dx", 0, 9).blame(), -1);
        Check.due("behind all BARS", recorded("dx", 3, 9).blame(), -1);
        Check.due("far behind", recorded("dx", 98, 9).blame(), -1);
        Check.due("none is wrong", recorded("dx", 1, 2).blame(), -1);
        Check.due("empty", recorded("dx", 1).blame(), -1);
        for (int from = 0; from <= 10; from++) {
            Check.due("none is wrong from " + from, recorded("dwmdwmdwmdx", from, from + 1).blame(), -1);
            Check.due("empty from " + from, recorded("dwmdwmdwmdx", from).blame(), -1);
        }
        Check.due("no BARS", recorded("", 1, 9).blame(), -1);
        Check.due("with a FAULT", recorded("dxx", 1, 9).blame(), -1);
        int[] twenty = {1, 2, 3, 4, 5, 6, 7, 8, 9, 10, 11, 12, 13, 14, 15, 16, 17, 18, 19, 19};
        Check.due("place 19", recorded("p18mx", 0, twenty).blame(), 2);
        Check.due("place 19 from 79 on", recorded("p97mx", 79, 80, 81, 82, 83, 84, 85, 86, 87, 88, 89, 90, 91, 92, 93,
            94, 95, 96, 97, 98, 98).blame(), 2);
    }

    /** By SEED 7 the first LOT of 16 is 12, by SEED 0 it is 0. */
    private static void lotsOfTheEnds() {
        Check.says("33", "less than MISSED: it is; else less than MISSED and DOUBLED together: it is that");
        for (int missed = 0; missed <= 16; missed++) {
            for (int doubled = 0; doubled <= 16 - missed; doubled++) {
                OneTriangle x = Check.typed("dx");
                x.odds(0, missed, doubled);
                int due = 12 < missed ? -1 : 12 < missed + doubled ? 1 : 0;
                Check.due("LOT 12, " + missed + ", " + doubled, x.night(7, 0), due);
                int none = missed > 0 ? -1 : doubled > 0 ? 1 : 0;
                Check.due("LOT 0, " + missed + ", " + doubled, x.night(0, 0), none);
            }
        }
        OneTriangle y = Check.typed("dwmdwmdwmdx");
        for (int kind = 0; kind <= 2; kind++) {
            y.odds(kind, 16, 0);
        }
        Check.due("all MISSED", y.night(1, 0), -10);
        Check.due("never 0", y.night(1, 99), 0);
        for (int kind = 0; kind <= 2; kind++) {
            y.odds(kind, 0, 16);
        }
        Check.due("all DOUBLED", y.night(1, 0), 10);
        for (int kind = 0; kind <= 2; kind++) {
            y.odds(kind, 0, 0);
        }
        Check.due("all ONCE", y.night(1, 0), 0);
        Check.due("always 0", y.night(1, 99), 99);
    }

    private static int lot(long seed) {
        return (int) (Math.floorMod(1103515245L * seed + 12345L, 1L << 32) / 65536 % 16);
    }

    private static void seedsThatWrap() {
        Check.says("33", "as ints that wrap; its upper 16 bits as a number from 0 on, modulo m");
        int[] seeds = {0, 1, 2, 3, -1, -2, 7, 1000, 65535, 65536, -65536, GREATEST, GREATEST - 1, LEAST, LEAST + 1};
        for (int seed : seeds) {
            int lot = lot(seed);
            OneTriangle x = Check.typed("dx");
            x.odds(0, lot, 0);
            Check.due("SEED " + seed + ", not less than " + lot, x.night(seed, 0), 0);
            x.odds(0, lot + 1, 0);
            Check.due("SEED " + seed + ", less than " + (lot + 1), x.night(seed, 0), -1);
        }
    }

    private static void barByBar() {
        Check.says("33", "BAR by BAR a LOT of 16 for each LOOSE one");
        for (int seed = -20; seed <= 20; seed++) {
            long now = seed;
            int slip = 0;
            int[] order = {2, 0, 1, 0};
            int[] missed = {2, 1, 3};
            int[] doubled = {1, 3, 2};
            for (int kind : order) {
                int lot = lot(now);
                now = (int) (1103515245L * now + 12345L);
                slip += lot < missed[kind] ? -1 : lot < missed[kind] + doubled[kind] ? 1 : 0;
            }
            // No LOT is drawn for the others.
            Check.due("SEED " + seed, Check.typed("p02mcadp09cbwdx").night(seed, 0), slip);
        }
    }

    private static void nightsGoOn() {
        Check.says("33", "of n (1 to 99) nights (the SEED going on) in how many it is 0");
        OneTriangle x = Check.typed("ddx");
        x.odds(0, 5, 5);
        for (int n = 1; n <= 99; n++) {
            long now = 77;
            int even = 0;
            for (int night = 0; night < n; night++) {
                int slip = 0;
                for (int i = 0; i < 2; i++) {
                    int lot = lot(now);
                    now = (int) (1103515245L * now + 12345L);
                    slip += lot < 5 ? -1 : lot < 10 ? 1 : 0;
                }
                even += slip == 0 ? 1 : 0;
            }
            Check.due(n + " nights", x.night(77, n), even);
        }
        Check.due("each call from its own SEED", x.night(77, 1), x.night(77, 1));
    }

    private static void nightRefused() {
        Check.says("33", "BAD: -102 (n 0 to 99).");
        for (int bad : new int[] {-1, 100, LEAST, GREATEST}) {
            Check.due("n " + bad, Check.typed("dx").night(7, bad), -102);
            Check.due("no BARS, n " + bad, new OneTriangle().night(7, bad), -102);
        }
        Check.due("no BARS, one night", new OneTriangle().night(7, 0), 0);
        Check.due("no BARS, the least", new OneTriangle().night(7, 1), 1);
        Check.due("no BARS, the greatest", new OneTriangle().night(7, 99), 99);
    }
}
