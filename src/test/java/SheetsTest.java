import java.util.ArrayList;
import java.util.List;

/** Promises 34 to 41: sheets, counts, the digest. */
public final class SheetsTest {
    private static final int LEAST = Integer.MIN_VALUE;

    private SheetsTest() {
    }

    public static void main(String[] args) {
        sheet();
        lose();
        put();
        putRefused();
        get();
        copy();
        copyRefused();
        tell();
        count();
        digest();
        Check.close();
    }

    private static void sheet() {
        OneTriangle x = new OneTriangle();
        int[][] bad = {{-1, 0, 1}, {4, 0, 1}, {0, -1, 1}, {0, 3, 1}, {0, 0, 49}, {0, 0, Integer.MAX_VALUE},
            {4, 0, -1}, {0, 3, -1}};
        for (int[] b : bad) {
            Check.due("34: BAD " + b[0] + " " + b[1] + " " + b[2], x.sheet(b[0], b[1], b[2]), -2);
        }
        Check.due("34: BAD is no FINDING", x.count(8), 0);
        Check.due("34: SIZE", x.sheet(0, 0, -1), -15);
        Check.due("34: SIZE is told", x.count(8), 5);
        Check.due("34: still LOST", x.lose(0), -11);
        Check.due("34: least", x.sheet(0, 0, 0), 0);
        Check.due("34: greatest", x.sheet(3, 2, 48), 48);
        x.put(3, 2, 47, 9);
        Check.due("34: SIZE, least int", x.sheet(3, 2, LEAST), -15);
        Check.due("34: SIZE changes nothing", x.get(3, 2, 47), 9);
        Check.due("34: a new row", x.sheet(3, 2, 48), 48);
        Check.due("34: is of 0", x.get(3, 2, 47), 0);
        x.put(3, 2, 4, 9);
        x.sheet(3, 1, 5);
        Check.due("34: another FORM", x.get(3, 1, 4), 0);
        Check.due("34: shorter", x.get(3, 1, 5), LEAST);
        x.sheet(3, 1, 9);
        Check.due("34: longer", x.get(3, 1, 8), 0);
    }

    private static void lose() {
        OneTriangle x = new OneTriangle();
        Check.due("35: below 0", x.lose(-1), -2);
        Check.due("35: no such SHEET", x.lose(4), -2);
        Check.due("35: BAD is no FINDING", x.count(8), 0);
        Check.due("35: LOST at first", x.lose(2), -11);
        Check.due("35: NULL is told", x.count(8), 1);
        x.sheet(2, 1, 17);
        Check.due("35: had", x.lose(2), 17);
        Check.due("35: LOST", x.get(2, 1, 0), LEAST);
        Check.due("35: LOST is told", x.count(8), 1);
        Check.due("35: again", x.lose(2), -11);
        x.sheet(2, 1, 0);
        Check.due("35: an empty one", x.lose(2), 0);
    }

    private static void put() {
        OneTriangle x = new OneTriangle();
        x.sheet(0, 0, 3);
        x.sheet(1, 1, 3);
        x.sheet(2, 2, 3);
        int[] values = {0, 1, -1, 127, 128, 200, 255, 256, -129, 32767, 32768, 65535, 65536, 70000,
            Integer.MAX_VALUE, LEAST};
        for (int v : values) {
            Check.due("36: byte", x.put(0, 0, 2, v), 1);
            Check.due("36: byte of " + v, x.get(0, 0, 2), (byte) v);
            Check.due("36: short", x.put(1, 1, 0, v), 1);
            Check.due("36: short of " + v, x.get(1, 1, 0), (short) v);
            Check.due("36: int", x.put(2, 2, 1, v), 1);
            Check.due("36: int of " + v, x.get(2, 2, 1), v);
        }
        Check.due("36: the others stay", x.get(0, 0, 1), 0);
        Check.due("36: the other SHEETS stay", x.get(1, 1, 2), 0);
    }

    private static void putRefused() {
        OneTriangle x = new OneTriangle();
        Check.due("36: SHEET below 0", x.put(-1, 0, 0, 0), -2);
        Check.due("36: no such SHEET", x.put(4, 0, 0, 0), -2);
        Check.due("36: no such FORM, ahead of NULL", x.put(0, 3, 0, 0), -2);
        Check.due("36: FORM below 0", x.put(0, -1, 0, 0), -2);
        Check.due("36: NULL ahead of all", x.put(0, 1, 9, 0), -11);
        Check.due("36: NULL is told", x.count(8), 1);
        x.sheet(0, 1, 3);
        Check.due("36: CAST ahead of INDEX", x.put(0, 0, 9, 0), -13);
        Check.due("36: CAST is told", x.count(8), 3);
        Check.due("36: INDEX above", x.put(0, 1, 3, 7), -12);
        Check.due("36: INDEX is told", x.count(8), 2);
        Check.due("36: INDEX below 0", x.put(0, 1, -1, 7), -12);
        Check.due("36: INDEX least int", x.put(0, 1, LEAST, 7), -12);
        Check.due("36: INDEX greatest int", x.put(0, 1, Integer.MAX_VALUE, 7), -12);
        x.sheet(0, 1, 0);
        Check.due("36: no item at all", x.put(0, 1, 0, 7), -12);
    }

    private static void get() {
        OneTriangle x = new OneTriangle();
        Check.due("37: SHEET below 0", x.get(-1, 0, 0), LEAST);
        Check.due("37: no such SHEET", x.get(4, 0, 0), LEAST);
        Check.due("37: no such FORM", x.get(0, 3, 0), LEAST);
        Check.due("37: FORM below 0", x.get(0, -1, 0), LEAST);
        Check.due("37: BAD is no FINDING", x.count(8), 0);
        Check.due("37: NULL", x.get(0, 0, 0), LEAST);
        Check.due("37: NULL is told", x.count(8), 1);
        x.sheet(0, 2, 2);
        Check.due("37: CAST", x.get(0, 1, 5), LEAST);
        Check.due("37: CAST is told", x.count(8), 3);
        Check.due("37: INDEX", x.get(0, 2, 2), LEAST);
        Check.due("37: INDEX is told", x.count(8), 2);
        Check.due("37: BAD then", x.get(9, 2, 2), LEAST);
        Check.due("37: BAD leaves it", x.count(8), 2);
        x.put(0, 2, 1, 77);
        Check.due("37: an item", x.get(0, 2, 1), 77);
        Check.due("37: it leaves the FINDING", x.count(8), 2);
        Check.due("37: below 0", x.get(0, 2, -1), LEAST);
    }

    private static OneTriangle withRow() {
        OneTriangle x = new OneTriangle();
        x.sheet(0, 0, 5);
        x.sheet(1, 0, 4);
        for (int i = 0; i < 5; i++) {
            x.put(0, 0, i, i + 1);
        }
        return x;
    }

    private static void items(String what, OneTriangle x, int s, int... due) {
        for (int i = 0; i < due.length; i++) {
            Check.due(what + ", item " + i, x.get(s, 0, i), due[i]);
        }
    }

    private static void copy() {
        OneTriangle x = withRow();
        Check.due("38: to another", x.copy(0, 1, 1, 0, 3), 1);
        items("38: to another", x, 1, 2, 3, 4, 0);
        items("38: it stays", x, 0, 1, 2, 3, 4, 5);
        Check.due("38: up, as they were", x.copy(0, 0, 0, 1, 4), 1);
        items("38: up", x, 0, 1, 1, 2, 3, 4);
        Check.due("38: down, as they were", x.copy(0, 1, 0, 0, 4), 1);
        items("38: down", x, 0, 1, 2, 3, 4, 4);
        Check.due("38: none at the end", x.copy(0, 5, 1, 4, 0), 1);
        Check.due("38: all", x.copy(1, 0, 0, 1, 4), 1);
        items("38: all", x, 0, 1, 2, 3, 4, 0);
    }

    private static void copyRefused() {
        OneTriangle x = withRow();
        x.sheet(2, 1, 5);
        int[][] bad = {{-1, 0}, {4, 0}, {0, -1}, {0, 4}, {3, 4}};
        for (int[] b : bad) {
            Check.due("38: BAD " + b[0] + " " + b[1], x.copy(b[0], 0, b[1], 0, 0), -2);
        }
        Check.due("38: BAD is no FINDING", x.count(8), 0);
        Check.due("38: NULL, s", x.copy(3, 9, 0, 9, 9), -11);
        Check.due("38: NULL, t", x.copy(0, 9, 3, 9, 9), -11);
        Check.due("38: NULL is told", x.count(8), 1);
        Check.due("38: STORE ahead of INDEX", x.copy(0, 9, 2, 9, -9), -14);
        Check.due("38: STORE is told", x.count(8), 4);
        int big = Integer.MAX_VALUE;
        int[][] index = {{-1, 0, 1}, {0, -1, 1}, {0, 0, -1}, {0, 0, 5}, {1, 0, 5}, {2, 0, 4}, {0, 1, 4}, {5, 0, 1},
            {0, 4, 1}, {6, 0, 0}, {0, 5, 0}, {big, 0, 1}, {0, big, 1}, {0, 0, big}, {1, 1, big}, {LEAST, 0, 1},
            {1, 1, LEAST}, {big, big, big}};
        for (int[] i : index) {
            Check.due("38: INDEX " + i[0] + " " + i[1] + " " + i[2], x.copy(0, i[0], 1, i[1], i[2]), -12);
        }
        Check.due("38: INDEX is told", x.count(8), 2);
        items("38: INDEX changes nothing", x, 1, 0, 0, 0, 0);
    }

    private static void tell() {
        OneTriangle x = Check.typed("p01dwmcax");
        Check.due("39: below 0", x.tell(-1), -2);
        Check.due("39: no such SHEET", x.tell(4), -2);
        Check.due("39: LOST", x.tell(0), -11);
        Check.due("39: LOST is told", x.count(8), 1);
        for (int form = 0; form < 3; form++) {
            x.sheet(form, form, 8);
            x.put(form, form, 6, 9);
            Check.due("39: as many as BARS", x.tell(form), 6);
            int[] due = {3, 0, 1, 2, 4, 5, 9, 0};
            for (int i = 0; i < due.length; i++) {
                Check.due("39: FORM " + form + ", item " + i, x.get(form, form, i), due[i]);
            }
        }
        x.sheet(3, 0, 2);
        Check.due("39: as many as items", x.tell(3), 2);
        items("39: these", x, 3, 3, 0);
        x.sheet(3, 0, 0);
        Check.due("39: no items", x.tell(3), 0);
        x.sheet(3, 0, 2);
        x.put(3, 0, 0, 8);
        x.wipe();
        Check.due("39: no BARS", x.tell(3), 0);
        items("39: it stays", x, 3, 8, 0);
    }

    private static void count() {
        OneTriangle x = Check.typed("p07dwcax");
        x.hear(1, 1);
        x.hear(1, 1);
        x.hear(1, 1);
        for (int i = 0; i < 4; i++) {
            x.player(5, 5);
        }
        for (int i = 0; i < 5; i++) {
            x.said(9);
        }
        x.set(0, 6);
        x.get(0, 0, 0);
        int[] due = {11, 8, 2, 1, 3, 4, 5, 6, 1};
        for (int what = 0; what < due.length; what++) {
            Check.due("40: " + what, x.count(what), due[what]);
        }
        Check.due("40: below 0", x.count(-1), -2);
        Check.due("40: what 9", x.count(9), -2);
    }

    private static void digest() {
        OneTriangle x = new OneTriangle();
        Check.due("41: new", x.digest(), digestOf(x));
        // BARS 19 and 20 are LOOSE, 30 is not the last number, and EVENINGS 8 to 10 differ.
        Check.type(x, "p03dp02cawp01cbmp08dwp08mdx");
        x.odds(0, 9, 2);
        x.set(7, 3);
        x.set(8, 4);
        Check.due("41: of a piece", x.digest(), digestOf(x));
        x.hear(7, 0);
        x.shown(10, 9);
        for (int i = 0; i < 3; i++) {
            x.player(10, 4);
        }
        x.said(4);
        x.from(4);
        Check.due("41: of all", x.digest(), digestOf(x));
        Check.due("41: the same again", x.digest(), digestOf(x));
        for (int doubled = 0; doubled <= 12; doubled++) {
            x.odds(2, 4, doubled);
            Check.due("41: m DOUBLED by " + doubled, x.digest(), digestOf(x));
        }
        x.type('q');
        Check.due("41: with a FAULT", x.digest(), digestOf(x));
    }

    private static long digestOf(OneTriangle x) {
        long h = 17;
        for (long one : digested(x)) {
            h = 31 * h + one;
        }
        return h;
    }

    /** What digest() goes through, by the face alone, in the document's order. */
    static List<Long> digested(OneTriangle x) {
        List<Long> each = new ArrayList<>();
        for (int what = 0; what <= 7; what++) {
            each.add((long) x.count(what));
        }
        each.add((long) x.fault());
        for (int number : new int[] {1, 10, 30}) {
            each.addAll(List.of(x.where(number, 9, 0), x.where(number, 9, 1), (long) x.likeliest(number),
                x.strike(number, 0), x.strike(number, 1)));
        }
        each.add((long) x.line());
        for (int slip = -2; slip <= 2; slip++) {
            each.addAll(List.of(x.slips(20, slip, 0), x.slips(20, slip, 1)));
        }
        each.addAll(List.of(x.safe(0, 0), x.safe(0, 1), x.safe(1, 0), x.safe(1, 1)));
        each.addAll(List.of((long) x.write(1), (long) x.write(2), (long) x.few(8)));
        for (int cue = 0; cue < x.count(3); cue++) {
            each.add((long) x.anew(cue));
        }
        each.addAll(List.of(x.joint(9, 12, 0), x.joint(9, 12, 1)));
        each.addAll(List.of(x.evening(0, 0), x.evening(0, 1), x.evening(9, 0), x.evening(9, 1)));
        for (int one : new int[] {x.prime(0), x.prime(1), x.worth(0), x.worth(1), x.look(9), x.wrong(0), x.wrong(1),
            x.blame(), x.night(7, 0), x.night(7, 20)}) {
            each.add((long) one);
        }
        return each;
    }
}
