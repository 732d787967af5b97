import java.util.ArrayList;
import java.util.List;
import java.util.function.ToLongFunction;

/**
 * "Refusals, the first that fits, in the order told at each act .. They change nothing (FINDINGS but
 * count() 8)." Each refused call is made on a fresh object, in three states, and all that can be
 * asked of that object afterwards is compared with what an object without that call tells.
 */
public final class RefusalsTest {
    private static final int LEAST = Integer.MIN_VALUE, GREATEST = Integer.MAX_VALUE;
    private static final int NEW = 0, SOME = 1, MOST = 2;
    private static final String[] STATES = {"new", "some", "full"};

    private RefusalsTest() {
    }

    public static void main(String[] args) {
        statesDiffer();
        ofThePiece();
        ofTheRanges();
        ofFullOnes();
        ofNotes();
        ofWhereHeIs();
        ofCues();
        ofLooks();
        ofSheets();
        ofFindings();
        questionsChangeNothing();
        Check.close();
    }

    private static OneTriangle in(int state) {
        OneTriangle x = new OneTriangle();
        if (state == SOME) {
            Check.type(x, "p02dcawcbmx");
            x.odds(1, 4, 5);
            x.set(0, 12);
            x.hear(3, 0);
            x.shown(5, 4);
            x.player(4, 9);
            x.player(4, 7);
            x.from(1);
            x.said(2);
            x.said(4);
        }
        if (state == MOST) {
            // Two bytes behind x: a FAULT, and no room for more.
            Check.type(x, "p01".repeat(13) + "dwmdwmdwmdcacbcccdxqq");
            for (int i = 0; i < 4; i++) {
                x.shown(1, 0);
            }
            for (int i = 0; i < 8; i++) {
                x.player(9, 9);
            }
            for (int i = 1; i <= 20; i++) {
                x.said(i);
            }
        }
        if (state != NEW) {
            x.sheet(0, 0, 3);
            x.sheet(1, 1, 3);
            x.sheet(2, 2, 3);
            for (int i = 0; i < 3; i++) {
                x.put(0, 0, i, 11 + i);
                x.put(1, 1, i, 21 + i);
                x.put(2, 2, i, 31 + i);
            }
        }
        return x;
    }

    /** All that can be asked, what changes the object last; count() 8 is the first of them. */
    private static List<Long> answersOf(OneTriangle x) {
        List<Long> all = new ArrayList<>();
        for (int what = 8; what >= 0; what--) {
            all.add((long) x.count(what));
        }
        all.add(x.digest());
        for (int s = 0; s < 4; s++) {
            for (int i = 0; i < 4; i++) {
                all.add((long) x.get(s, Math.min(s, 2), i));
            }
        }
        for (int bar = 0; bar < 10; bar++) {
            all.add((long) x.bar(bar, 0));
            all.add((long) x.look(bar));
            for (int number = 1; number <= 9; number++) {
                all.add(x.where(number, bar, 1));
            }
        }
        all.add((long) x.from(0));
        all.add((long) x.wrong(0));
        all.add((long) x.wrong(1));
        for (int what = 0; what <= 8; what++) {
            all.add((long) x.set(what, 0));
        }
        for (int kind = 0; kind <= 2; kind++) {
            all.add((long) x.odds(kind, 0, 0));
        }
        for (int s = 0; s < 4; s++) {
            all.add((long) x.lose(s));
        }
        for (int i = 0; i <= 60; i++) {
            all.add((long) x.undo());
            all.add((long) x.fault());
        }
        return all;
    }

    private static void refused(String call, int state, long due, int finding, ToLongFunction<OneTriangle> made) {
        OneTriangle x = in(state);
        String what = STATES[state] + ": " + call;
        Check.due(what, made.applyAsLong(x), due);
        List<Long> with = answersOf(x);
        List<Long> without = answersOf(in(state));
        if (finding != 0) {
            without.set(0, (long) finding);
        }
        Check.holds(what + " changes nothing", with.equals(without));
    }

    private static void bad(String call, ToLongFunction<OneTriangle> made) {
        everywhere(call, -2, made);
    }

    private static void badLong(String call, ToLongFunction<OneTriangle> made) {
        everywhere(call, Check.BAD, made);
    }

    private static void everywhere(String call, long due, ToLongFunction<OneTriangle> made) {
        for (int state = NEW; state <= MOST; state++) {
            refused(call, state, due, 0, made);
        }
    }

    private static void statesDiffer() {
        Check.says("1", "They change nothing");
        Check.holds("new and some", !answersOf(in(NEW)).equals(answersOf(in(SOME))));
        Check.holds("some and full", !answersOf(in(SOME)).equals(answersOf(in(MOST))));
        Check.holds("the same state again", answersOf(in(SOME)).equals(answersOf(in(SOME))));
        int[] full = {60, 4, 8, 20};
        int[] whats = {1, 4, 5, 6};
        for (int i = 0; i < full.length; i++) {
            Check.due("full, count " + whats[i], in(MOST).count(whats[i]), full[i]);
        }
    }

    private static void ofThePiece() {
        Check.says("2 to 9", "BAD -2 (a number not as told, no such thing)");
        bad("type(-1)", x -> x.type(-1));
        bad("type(256)", x -> x.type(256));
        refused("undo()", NEW, -3, 0, x -> x.undo());
        bad("bar(-1, 0)", x -> x.bar(-1, 0));
        bad("bar(99, 0)", x -> x.bar(99, 0));
        bad("bar(0, 3)", x -> x.bar(0, 3));
        bad("bar(0, -1)", x -> x.bar(0, -1));
        bad("odds(3, 1, 1)", x -> x.odds(3, 1, 1));
        bad("odds(-1, 1, 1)", x -> x.odds(-1, 1, 1));
        for (int kind = 0; kind <= 2; kind++) {
            int k = kind;
            bad("odds(.., 9, 8)", x -> x.odds(k, 9, 8));
            bad("odds(.., -1, 0)", x -> x.odds(k, -1, 0));
            bad("odds(.., 0, -1)", x -> x.odds(k, 0, -1));
            bad("odds(.., 17, 0)", x -> x.odds(k, 17, 0));
            bad("odds(.., 0, 17)", x -> x.odds(k, 0, 17));
        }
    }

    private static void ofTheRanges() {
        Check.says("8", "what it was. BAD.");
        int[] most = {16, 16, 16, 16, 99, 99, 16, 4, 4};
        for (int what = 0; what <= 8; what++) {
            int w = what;
            bad("set(" + w + ", above)", x -> x.set(w, most[w] + 1));
            bad("set(" + w + ", -1)", x -> x.set(w, -1));
        }
        bad("set(9, 0)", x -> x.set(9, 0));
        bad("set(-1, 0)", x -> x.set(-1, 0));
    }

    private static void ofFullOnes() {
        Check.says("2, 10, 11, 25, 30", "FULL -4");
        refused("type(0)", MOST, -4, 0, x -> x.type(0));
        refused("hear(1, 0)", MOST, -4, 0, x -> x.hear(1, 0));
        refused("shown(1, 0)", MOST, -4, 0, x -> x.shown(1, 0));
        refused("player(1, 1)", MOST, -4, 0, x -> x.player(1, 1));
        refused("said(1)", MOST, -4, 0, x -> x.said(1));
    }

    private static void ofNotes() {
        Check.says("10, 11", "A NOTE more of a BAR: how many. BAD; FULL.");
        for (int number : new int[] {0, 111, LEAST, GREATEST}) {
            bad("hear(" + number + ", 0)", x -> x.hear(number, 0));
            bad("shown(" + number + ", 0)", x -> x.shown(number, 0));
        }
        bad("hear(1, -1)", x -> x.hear(1, -1));
        bad("hear(1, 4)", x -> x.hear(1, 4));
        bad("shown(1, -1)", x -> x.shown(1, -1));
        bad("shown(1, 99)", x -> x.shown(1, 99));
    }

    private static void ofWhereHeIs() {
        Check.says("13 to 17", "Where the answer is a long, a refusal -x is the least long and x more");
        for (int number : new int[] {0, 111, LEAST, GREATEST}) {
            badLong("where(" + number + ", 0, 0)", x -> x.where(number, 0, 0));
            badLong("strike(" + number + ", 0)", x -> x.strike(number, 0));
            bad("likeliest(" + number + ")", x -> x.likeliest(number));
        }
        for (int what : new int[] {-1, 2}) {
            badLong("where(1, 0, " + what + ")", x -> x.where(1, 0, what));
            badLong("strike(1, " + what + ")", x -> x.strike(1, what));
            badLong("slips(0, 0, " + what + ")", x -> x.slips(0, 0, what));
        }
        badLong("where(1, -1, 0)", x -> x.where(1, -1, 0));
        badLong("where(1, 99, 0)", x -> x.where(1, 99, 0));
        badLong("slips(-1, 0, 0)", x -> x.slips(-1, 0, 0));
        badLong("slips(99, 0, 0)", x -> x.slips(99, 0, 0));
        badLong("slips(0, 11, 0)", x -> x.slips(0, 11, 0));
        badLong("slips(0, -11, 0)", x -> x.slips(0, -11, 0));
        refused("where(110, 0, 0)", SOME, Check.NOT, 0, x -> x.where(110, 0, 0));
        everywhere("strike(110, 1)", Check.NOT, x -> x.strike(110, 1));
        everywhere("likeliest(110)", -3, x -> x.likeliest(110));
    }

    private static void ofCues() {
        Check.says("18 to 24", "BAD -2 (a number not as told, no such thing), NULL, NOT -3 (as told)");
        badLong("safe(-1, 0)", x -> x.safe(-1, 0));
        badLong("safe(64, 0)", x -> x.safe(64, 0));
        badLong("safe(0, 2)", x -> x.safe(0, 2));
        bad("write(-1)", x -> x.write(-1));
        bad("write(4)", x -> x.write(4));
        bad("few(-1)", x -> x.few(-1));
        bad("few(17)", x -> x.few(17));
        bad("anew(-1)", x -> x.anew(-1));
        bad("anew(6)", x -> x.anew(6));
        badLong("joint(-1, 5, 0)", x -> x.joint(-1, 5, 0));
        badLong("joint(5, 17, 0)", x -> x.joint(5, 17, 0));
        badLong("joint(16, 0, 2)", x -> x.joint(16, 0, 2));
        everywhere("joint(16, 0, 0)", Check.NOT, x -> x.joint(16, 0, 0));
        badLong("evening(-1, 0)", x -> x.evening(-1, 0));
        badLong("evening(60, 0)", x -> x.evening(60, 0));
        badLong("evening(0, 2)", x -> x.evening(0, 2));
        bad("prime(-1)", x -> x.prime(-1));
        bad("prime(2)", x -> x.prime(2));
        for (int state : new int[] {NEW, MOST}) {
            refused("safe(1, 0)", state, Check.NOT, 0, x -> x.safe(1, 0));
            refused("write(0)", state, -3, 0, x -> x.write(0));
            refused("write(1)", state, -2, 0, x -> x.write(1));
            refused("few(8)", state, -3, 0, x -> x.few(8));
            refused("evening(0, 0)", state, Check.NOT, 0, x -> x.evening(0, 0));
            refused("prime(0)", state, -3, 0, x -> x.prime(0));
        }
    }

    private static void ofLooks() {
        Check.says("25 to 33", "where any number is told, it is -100 less x");
        everywhere("night(7, -1)", -102, x -> x.night(7, -1));
        everywhere("night(7, 100)", -102, x -> x.night(7, 100));
        bad("player(0, 1)", x -> x.player(0, 1));
        bad("player(99, 1)", x -> x.player(99, 1));
        bad("player(1, 0)", x -> x.player(1, 0));
        bad("player(1, 100)", x -> x.player(1, 100));
        bad("worth(-1)", x -> x.worth(-1));
        bad("worth(2)", x -> x.worth(2));
        bad("look(-1)", x -> x.look(-1));
        bad("look(99)", x -> x.look(99));
        bad("from(-1)", x -> x.from(-1));
        bad("from(99)", x -> x.from(99));
        bad("said(0)", x -> x.said(0));
        bad("said(111)", x -> x.said(111));
        bad("wrong(-1)", x -> x.wrong(-1));
        bad("wrong(2)", x -> x.wrong(2));
    }

    private static void ofSheets() {
        Check.says("9, 34 to 40", "BAD -2 (a number not as told, no such thing)");
        for (int s : new int[] {-1, 4, LEAST, GREATEST}) {
            bad("read(" + s + ")", x -> x.read(s));
            bad("sheet(" + s + ", 0, 1)", x -> x.sheet(s, 0, 1));
            bad("lose(" + s + ")", x -> x.lose(s));
            bad("put(" + s + ", 0, 0, 1)", x -> x.put(s, 0, 0, 1));
            everywhere("get(" + s + ", 0, 0)", LEAST, x -> x.get(s, 0, 0));
            bad("copy(" + s + ", 0, 0, 0, 1)", x -> x.copy(s, 0, 0, 0, 1));
            bad("copy(0, 0, " + s + ", 0, 1)", x -> x.copy(0, 0, s, 0, 1));
            bad("tell(" + s + ")", x -> x.tell(s));
        }
        bad("sheet(0, 3, 1)", x -> x.sheet(0, 3, 1));
        bad("sheet(0, -1, 1)", x -> x.sheet(0, -1, 1));
        bad("sheet(0, 0, 49)", x -> x.sheet(0, 0, 49));
        bad("put(0, 3, 0, 1)", x -> x.put(0, 3, 0, 1));
        everywhere("get(0, 3, 0)", LEAST, x -> x.get(0, 3, 0));
        bad("count(-1)", x -> x.count(-1));
        bad("count(9)", x -> x.count(9));
    }

    private static void ofFindings() {
        Check.says("9, 34 to 39", "FINDINGS (answers -10 less the number; they change nothing but count() 8)");
        for (int state = NEW; state <= MOST; state++) {
            refused("read(3)", state, -11, 1, x -> x.read(3));
            refused("sheet(0, 0, -1)", state, -15, 5, x -> x.sheet(0, 0, -1));
            refused("lose(3)", state, -11, 1, x -> x.lose(3));
            refused("put(3, 0, 0, 1)", state, -11, 1, x -> x.put(3, 0, 0, 1));
            refused("get(3, 0, 0)", state, LEAST, 1, x -> x.get(3, 0, 0));
            refused("copy(3, 0, 0, 0, 1)", state, -11, 1, x -> x.copy(3, 0, 0, 0, 1));
            refused("copy(0, 0, 3, 0, 1)", state, -11, 1, x -> x.copy(0, 0, 3, 0, 1));
            refused("tell(3)", state, -11, 1, x -> x.tell(3));
        }
        for (int state = SOME; state <= MOST; state++) {
            refused("put(1, 2, 0, 5)", state, -13, 3, x -> x.put(1, 2, 0, 5));
            refused("put(1, 1, 3, 5)", state, -12, 2, x -> x.put(1, 1, 3, 5));
            refused("put(1, 1, -1, 5)", state, -12, 2, x -> x.put(1, 1, -1, 5));
            refused("get(1, 0, 0)", state, LEAST, 3, x -> x.get(1, 0, 0));
            refused("get(1, 1, 3)", state, LEAST, 2, x -> x.get(1, 1, 3));
            refused("copy(0, 0, 1, 0, 1)", state, -14, 4, x -> x.copy(0, 0, 1, 0, 1));
            refused("copy(2, 0, 2, 1, 3)", state, -12, 2, x -> x.copy(2, 0, 2, 1, 3));
            refused("copy(2, 1, 2, 0, 3)", state, -12, 2, x -> x.copy(2, 1, 2, 0, 3));
            refused("copy(2, 0, 2, 1, -1)", state, -12, 2, x -> x.copy(2, 0, 2, 1, -1));
        }
    }

    private static void questionsChangeNothing() {
        Check.says("13 to 41", "Nothing is promised beyond the answers and state changes described above");
        List<ToLongFunction<OneTriangle>> questions = List.of(x -> x.fault(), x -> x.bar(0, 0),
            x -> x.where(3, 2, 0), x -> x.likeliest(3), x -> x.strike(3, 0), x -> x.line(), x -> x.slips(3, 1, 0),
            x -> x.safe(3, 1), x -> x.write(1), x -> x.few(14), x -> x.anew(0), x -> x.joint(3, 4, 0),
            x -> x.evening(40, 0), x -> x.prime(0), x -> x.worth(1), x -> x.look(1), x -> x.wrong(0),
            x -> x.blame(), x -> x.night(5, 0), x -> x.night(5, 99), x -> x.get(0, 0, 0), x -> x.count(0),
            x -> x.digest());
        for (int state = SOME; state <= MOST; state++) {
            for (int i = 0; i < questions.size(); i++) {
                OneTriangle x = in(state);
                long once = questions.get(i).applyAsLong(x);
                Check.due(STATES[state] + ": question " + i + " twice", questions.get(i).applyAsLong(x), once);
                Check.holds(STATES[state] + ": question " + i, answersOf(x).equals(answersOf(in(state))));
            }
        }
    }
}
