/** Promises 25 to 33: players and looks, the record, nights. */
public final class LooksTest {
    private LooksTest() {
    }

    public static void main(String[] args) {
        player();
        leave();
        worth();
        worthOfLikeOnes();
        look();
        from();
        said();
        wrong();
        blame();
        nightOfOneBar();
        nightOfMany();
        Check.close();
    }

    private static OneTriangle withPlayers(int... barsAndWorths) {
        OneTriangle x = new OneTriangle();
        for (int i = 0; i + 1 < barsAndWorths.length; i += 2) {
            x.player(barsAndWorths[i], barsAndWorths[i + 1]);
        }
        return x;
    }

    private static void player() {
        OneTriangle x = new OneTriangle();
        int[][] bad = {{0, 5}, {-1, 5}, {99, 5}, {5, 0}, {5, -1}, {5, 100}, {Integer.MIN_VALUE, 5},
            {5, Integer.MAX_VALUE}};
        for (int[] b : bad) {
            Check.due("25: BAD " + b[0] + " " + b[1], x.player(b[0], b[1]), -2);
        }
        Check.due("25: BAD adds none", x.count(5), 0);
        Check.due("25: the last BAR, the greatest worth", x.player(98, 99), 1);
        Check.due("25: the first BAR, the least worth", x.player(1, 1), 2);
        for (int n = 3; n <= 8; n++) {
            Check.due("25: " + n, x.player(5, 5), n);
        }
        Check.due("25: FULL", x.player(5, 5), -4);
        Check.due("25: BAD ahead of FULL", x.player(0, 5), -2);
        Check.due("25: so many", x.count(5), 8);
    }

    private static void leave() {
        OneTriangle x = withPlayers(9, 4, 2, 5);
        Check.due("26: two", x.leave(), 2);
        Check.due("26: none is left", x.count(5), 0);
        Check.due("26: nothing is worth", x.worth(0), 0);
        Check.due("26: none is looked at", x.look(0), -1);
        Check.due("26: again", x.leave(), 0);
        Check.due("26: one anew", x.player(3, 7), 1);
        Check.due("26: its worth", x.worth(0), 7);
    }

    private static void worth() {
        OneTriangle x = withPlayers(5, 9, 6, 4, 6, 8, 6, 7, 5, 20, 30, 3, 2, 2, 1, 1);
        Check.due("27: the most", x.worth(0), 50);
        Check.due("27: by whom", x.worth(1), 253);
        Check.due("27: below 0", x.worth(-1), -2);
        Check.due("27: what 2", x.worth(2), -2);
        OneTriangle y = withPlayers(1, 5, 1, 9, 1, 7);
        Check.due("27: one look ahead of BAR 1", y.worth(0), 9);
        Check.due("27: at the dearest", y.worth(1), 2);
        OneTriangle z = withPlayers(2, 5, 2, 9, 2, 7, 1, 8);
        Check.due("27: two looks ahead of BAR 2", z.worth(0), 17);
        Check.due("27: by two", z.worth(1), 10);
        OneTriangle four = withPlayers(50, 1, 50, 2, 50, 3, 50, 4);
        Check.due("27: three looks ahead", four.worth(0), 9);
        Check.due("27: by three", four.worth(1), 14);
        Check.due("27: the least worth", withPlayers(5, 1).worth(0), 1);
        Check.due("27: is worth a look", withPlayers(5, 1).worth(1), 1);
        OneTriangle none = new OneTriangle();
        Check.due("27: no PLAYERS", none.worth(0), 0);
        Check.due("27: no bits", none.worth(1), 0);
    }

    private static void worthOfLikeOnes() {
        Check.due("27: of like ones the least", withPlayers(1, 5, 1, 5).worth(1), 1);
        Check.due("27: of like two the least", withPlayers(2, 4, 2, 4, 2, 4).worth(1), 3);
        // 0 and 1 together are worth what 2 and 3 are; BAR 0 and 1 are all there is.
        Check.due("27: 5 and 3, or 4 and 4", withPlayers(2, 5, 2, 3, 2, 4, 2, 4).worth(1), 5);
        Check.due("27: least as a number", withPlayers(1, 6, 1, 6, 2, 3).worth(1), 5);
    }

    private static void look() {
        OneTriangle x = withPlayers(4, 1, 3, 1, 3, 1);
        Check.due("28: who comes in soonest", x.look(0), 1);
        Check.due("28: the sooner first", x.look(1), 2);
        Check.due("28: the later then", x.look(2), 0);
        Check.due("28: none is left", x.look(3), -1);
        OneTriangle y = withPlayers(10, 3, 50, 4);
        Check.due("28: not yet", y.look(6), -1);
        Check.due("28: three ahead", y.look(7), 0);
        Check.due("28: looked at already", y.look(8), -1);
        Check.due("28: the other", y.look(47), 1);
        Check.due("28: in its BAR", y.look(50), -1);
        OneTriangle z = withPlayers(1, 5, 1, 9);
        Check.due("28: of LOOKED AT alone", z.look(0), 1);
        Check.due("28: the other never", z.look(1), -1);
        Check.due("28: below 0", z.look(-1), -2);
        Check.due("28: the last", z.look(98), -1);
        Check.due("28: above 98", z.look(99), -2);
        OneTriangle last = withPlayers(98, 1, 98, 1, 98, 1);
        Check.due("28: 95", last.look(95), 0);
        Check.due("28: 96", last.look(96), 1);
        Check.due("28: 97", last.look(97), 2);
        Check.due("28: no PLAYERS", new OneTriangle().look(0), -1);
    }

    private static void from() {
        OneTriangle x = new OneTriangle();
        Check.due("29: at first", x.from(98), 0);
        Check.due("29: then", x.from(0), 98);
        Check.due("29: below 0", x.from(-1), -2);
        Check.due("29: above 98", x.from(99), -2);
        Check.due("29: BAD changes nothing", x.from(7), 0);
        x.said(8);
        Check.due("29: right from there", x.wrong(0), -1);
        x.from(8);
        Check.due("29: wrong from there", x.wrong(0), 0);
    }

    private static void said() {
        OneTriangle x = new OneTriangle();
        for (int bad : new int[] {0, -1, 111, Integer.MAX_VALUE}) {
            Check.due("30: " + bad, x.said(bad), -2);
        }
        Check.due("30: BAD adds none", x.count(6), 0);
        Check.due("30: least", x.said(1), 1);
        Check.due("30: greatest", x.said(110), 2);
        for (int n = 3; n <= 20; n++) {
            Check.due("30: " + n, x.said(n), n);
        }
        Check.due("30: FULL", x.said(21), -4);
        Check.due("30: BAD ahead of FULL", x.said(0), -2);
        Check.due("30: so many", x.count(6), 20);
    }

    private static void say(OneTriangle x, int... numbers) {
        for (int number : numbers) {
            x.said(number);
        }
    }

    private static void wrong() {
        OneTriangle x = new OneTriangle();
        Check.due("31: empty", x.wrong(0), -1);
        Check.due("31: empty, none", x.wrong(1), 0);
        x.from(29);
        say(x, 30, 31, 33, 34, 35, 35, 36);
        Check.due("31: the first", x.wrong(0), 2);
        Check.due("31: two", x.wrong(1), 2);
        x.from(30);
        Check.due("31: at 0", x.wrong(0), 0);
        Check.due("31: three", x.wrong(1), 3);
        Check.due("31: below 0", x.wrong(-1), -2);
        Check.due("31: what 2", x.wrong(2), -2);
        OneTriangle y = new OneTriangle();
        say(y, 1, 2, 3);
        Check.due("31: all right", y.wrong(0), -1);
        Check.due("31: all right, none", y.wrong(1), 0);
        say(y, 3);
        Check.due("31: the same again", y.wrong(0), 3);
    }

    private static void blame() {
        OneTriangle x = Check.typed("p02dwmcax");
        Check.due("32: no number", x.blame(), -1);
        int[] due = {-1, -1, -1, 0, 1, 2, -1, -1};
        for (int bar = 0; bar < due.length; bar++) {
            x.from(bar);
            x.sheet(0, 2, 1);
            x.put(0, 2, 0, 60);
            x.read(0);
            Check.due("32: wrong in BAR " + bar, x.blame(), due[bar]);
        }
        OneTriangle y = Check.typed("p02dwmcax");
        say(y, 1, 2, 3);
        Check.due("32: none is wrong", y.blame(), -1);
        say(y, 3, 5, 7);
        Check.due("32: the first alone", y.blame(), 0);
        y.from(1);
        Check.due("32: now it is place 0", y.blame(), -1);
        OneTriangle z = Check.typed("dx");
        z.from(50);
        z.said(9);
        Check.due("32: there is no such BAR", z.blame(), -1);
        z.from(1);
        Check.due("32: d ahead", z.blame(), 0);
        z.wipe();
        Check.due("32: no BARS", z.blame(), -1);
    }

    /** By SEED 7 the first LOT of 16 is 12, from an int below 0. */
    private static void nightOfOneBar() {
        OneTriangle x = Check.typed("dx");
        Check.due("33: once", x.night(7, 0), 0);
        x.odds(0, 12, 0);
        Check.due("33: 12 is not less than 12", x.night(7, 0), 0);
        x.odds(0, 13, 0);
        Check.due("33: MISSED", x.night(7, 0), -1);
        x.odds(0, 12, 1);
        Check.due("33: DOUBLED", x.night(7, 0), 1);
        x.odds(0, 0, 12);
        Check.due("33: nearly DOUBLED", x.night(7, 0), 0);
        Check.due("33: n below 0", x.night(7, -1), -102);
        Check.due("33: n 100", x.night(7, 100), -102);
        Check.due("33: no BARS", new OneTriangle().night(7, 0), 0);
        Check.due("33: no BARS, all", new OneTriangle().night(7, 99), 99);
        OneTriangle y = Check.typed("ddddddddddx");
        y.odds(0, 16, 0);
        Check.due("33: the least SLIP", y.night(3, 0), -10);
        y.odds(0, 0, 16);
        Check.due("33: the greatest SLIP", y.night(3, 0), 10);
        Check.due("33: never 0", y.night(3, 99), 0);
    }

    private static void nightOfMany() {
        OneTriangle x = Check.typed("wp05cax");
        x.odds(1, 8, 0);
        for (int seed : new int[] {0, 1, -1, 7, 12345, Integer.MIN_VALUE, Integer.MAX_VALUE}) {
            int now = seed;
            int even = 0;
            for (int n = 1; n <= 99; n++) {
                now = (int) (1103515245L * now + 12345L);
                even += (now & 0x7fffffff) / 65536 % 16 >= 8 ? 1 : 0;
                Check.due("33: " + seed + ", " + n, x.night(seed, n), even);
            }
            Check.due("33: the same again " + seed, x.night(seed, 99), even);
        }
    }
}
