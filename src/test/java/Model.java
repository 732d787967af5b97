import java.math.BigInteger;
import java.util.ArrayList;
import java.util.Arrays;
import java.util.List;

/**
 * The document once more, as slow and plain as may be: every way of counting is gone through one
 * by one, fractions are of big numbers, and the SHEETS are rows whose exceptions are the FINDINGS.
 */
final class Model {
    private static final int NONE = -1, BAD = -2, NOT = -3, FULL = -4;
    private static final long BAD_LONG = Long.MIN_VALUE + 2, NOT_LONG = Long.MIN_VALUE + 3;
    private static final BigInteger SIXTEEN = BigInteger.valueOf(16);

    private final StringBuilder text = new StringBuilder();
    private final int[] missed = {2, 1, 3};
    private final int[] doubled = {1, 3, 2};
    private final int[] settings = {14, 2, 1, 13, 20, 30, 12, 1, 1};
    private final List<int[]> notes = new ArrayList<>();
    private final List<int[]> players = new ArrayList<>();
    private List<Integer> record = new ArrayList<>();
    private int from = 0;
    private final Object[] sheets = new Object[4];
    private int finding = 0;

    /** Kind and tune by BAR. */
    private List<int[]> bars = new ArrayList<>();
    private int faultPlace = NONE;

    // ---- piece, odds

    int type(int b) {
        if (b < 0 || b > 255) {
            return BAD;
        }
        if (text.length() == 60) {
            return FULL;
        }
        text.append((char) b);
        parse();
        return text.length();
    }

    int wipe() {
        int had = text.length();
        text.setLength(0);
        parse();
        return had;
    }

    int undo() {
        if (text.length() == 0) {
            return NOT;
        }
        text.setLength(text.length() - 1);
        parse();
        return text.length();
    }

    int fault() {
        return faultPlace;
    }

    private void parse() {
        bars = new ArrayList<>();
        faultPlace = text.length() == 0 ? NONE : firstFault();
        if (faultPlace != NONE) {
            bars = new ArrayList<>();
        }
    }

    private int firstFault() {
        String t = text.toString();
        int i = 0;
        while (i < t.length()) {
            char c = t.charAt(i);
            if (c == 'p') {
                for (int f = i + 1; f <= i + 2; f++) {
                    if (f >= t.length() || t.charAt(f) < '0' || t.charAt(f) > '9') {
                        return f;
                    }
                }
                int n = Integer.parseInt(t.substring(i + 1, i + 3));
                if (n == 0 || bars.size() + n > 99) {
                    return i + 2;
                }
                for (int k = 0; k < n; k++) {
                    bars.add(new int[] {3, NONE});
                }
                i += 3;
                continue;
            }
            if ("dwmcx".indexOf(c) < 0 || bars.size() == 99) {
                return i;
            }
            if (c == 'x') {
                bars.add(new int[] {5, NONE});
                return i + 1 < t.length() ? i + 1 : NONE;
            }
            if (c == 'c') {
                if (ofKind(4, 4) == 6) {
                    return i;
                }
                if (i + 1 >= t.length() || "abcd".indexOf(t.charAt(i + 1)) < 0) {
                    return i + 1;
                }
                bars.add(new int[] {4, t.charAt(i + 1) - 'a'});
                i += 2;
                continue;
            }
            if (ofKind(0, 2) == 10) {
                return i;
            }
            bars.add(new int[] {"dwm".indexOf(c), NONE});
            i++;
        }
        return i;
    }

    private int ofKind(int least, int most) {
        int n = 0;
        for (int[] bar : bars) {
            if (bar[0] >= least && bar[0] <= most) {
                n++;
            }
        }
        return n;
    }

    private int cues() {
        return ofKind(4, 4);
    }

    private int barOfCue(int cue) {
        int n = -1;
        for (int b = 0; b < bars.size(); b++) {
            if (bars.get(b)[0] == 4 && ++n == cue) {
                return b;
            }
        }
        throw new IllegalStateException();
    }

    int bar(int bar, int what) {
        if (bar < 0 || bar >= bars.size() || what < 0 || what > 2) {
            return BAD;
        }
        if (what < 2) {
            return bars.get(bar)[what];
        }
        for (int c = 0; c < cues(); c++) {
            if (barOfCue(c) == bar) {
                return c;
            }
        }
        return NONE;
    }

    int odds(int kind, int m, int d) {
        if (kind < 0 || kind > 2 || m < 0 || d < 0 || m > 16 || d > 16 || m + d > 16) {
            return BAD;
        }
        int were = missed[kind] * 16 + doubled[kind];
        missed[kind] = m;
        doubled[kind] = d;
        return were;
    }

    int set(int what, int v) {
        int[] most = {16, 16, 16, 16, 99, 99, 16, 4, 4};
        if (what < 0 || what > 8 || v < 0 || v > most[what]) {
            return BAD;
        }
        int was = settings[what];
        settings[what] = v;
        return was;
    }

    int read(int s) {
        if (s < 0 || s > 3) {
            return BAD;
        }
        if (sheets[s] == null) {
            return found(1);
        }
        List<Integer> heard = new ArrayList<>();
        for (int i = 0; i < sizeOf(sheets[s]) && heard.size() < 20; i++) {
            int v = itemOf(sheets[s], i);
            if (v < 1 || v > 110) {
                break;
            }
            heard.add(v);
        }
        record = heard;
        return record.size();
    }

    // ---- where he is

    int hear(int number, int tune) {
        if (number < 1 || number > 110 || tune < 0 || tune > 3) {
            return BAD;
        }
        return noted(number, tune, NONE);
    }

    int shown(int number, int bar) {
        if (number < 1 || number > 110 || bar < 0 || bar > 98) {
            return BAD;
        }
        return noted(number, NONE, bar);
    }

    private int noted(int number, int tune, int bar) {
        if (notes.size() == 4) {
            return FULL;
        }
        notes.add(new int[] {number, tune, bar});
        return notes.size();
    }

    int forget() {
        int had = notes.size();
        notes.clear();
        return had;
    }

    /** By one way after another, each a figure in base 3 of how often each LOOSE BAR is counted. */
    private BigInteger[] weightsByBar(int number) {
        BigInteger[] sums = new BigInteger[bars.size()];
        Arrays.fill(sums, BigInteger.ZERO);
        int loose = ofKind(0, 2);
        int all = (int) Math.round(Math.pow(3, loose));
        for (int way = 0; way < all && !bars.isEmpty(); way++) {
            addWay(way, number, sums);
        }
        return sums;
    }

    private void addWay(int way, int number, BigInteger[] sums) {
        long chance = 1;
        int left = way;
        List<Integer> barBySaid = new ArrayList<>();
        for (int b = 0; b < bars.size(); b++) {
            int kind = bars.get(b)[0];
            int times = 1;
            if (kind <= 2) {
                times = left % 3;
                left /= 3;
                chance *= times == 0 ? missed[kind] : times == 2 ? doubled[kind]
                    : 16 - missed[kind] - doubled[kind];
            }
            for (int t = 0; t < times; t++) {
                barBySaid.add(b);
            }
        }
        if (chance == 0 || number > barBySaid.size()) {
            return;
        }
        BigInteger weight = BigInteger.valueOf(chance);
        for (int[] note : notes) {
            if (note[0] <= number) {
                weight = weight.multiply(BigInteger.valueOf(weightOf(note, barBySaid.get(note[0] - 1))));
            }
        }
        int bar = barBySaid.get(number - 1);
        sums[bar] = sums[bar].add(weight);
    }

    private int weightOf(int[] note, int bar) {
        if (note[1] == NONE) {
            return note[2] == bar ? settings[3] : 16 - settings[3];
        }
        if (bars.get(bar)[0] != 4) {
            return settings[2];
        }
        return bars.get(bar)[1] == note[1] ? settings[0] : settings[1];
    }

    private static BigInteger sum(BigInteger[] row) {
        BigInteger all = BigInteger.ZERO;
        for (BigInteger one : row) {
            all = all.add(one);
        }
        return all;
    }

    private static long told(BigInteger above, BigInteger below, int what) {
        BigInteger common = above.gcd(below);
        return (what == 0 ? above : below).divide(common).longValueExact();
    }

    long where(int number, int bar, int what) {
        if (number < 1 || number > 110 || bar < 0 || bar >= bars.size() || what < 0 || what > 1) {
            return BAD_LONG;
        }
        BigInteger[] row = weightsByBar(number);
        BigInteger all = sum(row);
        return all.signum() == 0 ? NOT_LONG : told(row[bar], all, what);
    }

    int likeliest(int number) {
        if (number < 1 || number > 110) {
            return BAD;
        }
        BigInteger[] row = weightsByBar(number);
        if (sum(row).signum() == 0) {
            return NOT;
        }
        int best = 0;
        for (int b = 0; b < row.length; b++) {
            if (row[b].compareTo(row[best]) > 0) {
                best = b;
            }
        }
        return best;
    }

    /** Above and below, not in lowest terms; null: it cannot be said. */
    private BigInteger[] cost(int number) {
        BigInteger[] row = weightsByBar(number);
        BigInteger all = sum(row);
        if (all.signum() == 0) {
            return null;
        }
        BigInteger early = all.subtract(row[row.length - 1]);
        return new BigInteger[] {early.multiply(BigInteger.valueOf(settings[4])), all};
    }

    long strike(int number, int what) {
        if (number < 1 || number > 110 || what < 0 || what > 1) {
            return BAD_LONG;
        }
        BigInteger[] cost = cost(number);
        return cost == null ? NOT_LONG : told(cost[0], cost[1], what);
    }

    private static boolean less(BigInteger[] a, BigInteger[] b) {
        return a[0].multiply(b[1]).compareTo(b[0].multiply(a[1])) < 0;
    }

    int line() {
        int best = NONE;
        BigInteger[] least = null;
        for (int number = 1; number <= 110; number++) {
            BigInteger[] cost = cost(number);
            if (cost != null && (least == null || less(cost, least))) {
                best = number;
                least = cost;
            }
        }
        BigInteger[] never = {BigInteger.valueOf(settings[5]), BigInteger.ONE};
        return least != null && less(least, never) ? best : NONE;
    }

    /** In parts of 16 to the LOOSE BARS ahead of end and the WRITTEN CUES there, by all ways. */
    private BigInteger[] slipChance(int end, int slip, int[] missing, int written) {
        List<int[]> acts = new ArrayList<>();
        for (int b = 0; b < end; b++) {
            int kind = bars.get(b)[0];
            if (kind <= 2) {
                acts.add(new int[] {missing[kind], 16 - missing[kind] - doubled[kind], doubled[kind]});
            } else if (kind == 4 && (written >> bar(b, 2) & 1) == 1) {
                acts.add(new int[] {settings[6], 16 - settings[6]});
            }
        }
        BigInteger above = slipWeight(acts, 0, 0, slip);
        return new BigInteger[] {above, SIXTEEN.pow(acts.size())};
    }

    private static BigInteger slipWeight(List<int[]> acts, int i, int now, int slip) {
        if (i == acts.size()) {
            return now == slip ? BigInteger.ONE : BigInteger.ZERO;
        }
        int[] act = acts.get(i);
        BigInteger sum = BigInteger.ZERO;
        for (int k = 0; k < act.length; k++) {
            if (act[k] != 0) {
                int behind = act.length == 3 ? now + k - 1 : k == 0 ? 0 : now;
                sum = sum.add(slipWeight(acts, i + 1, behind, slip).multiply(BigInteger.valueOf(act[k])));
            }
        }
        return sum;
    }

    long slips(int bar, int slip, int what) {
        if (bar < 0 || bar >= bars.size() || slip < -10 || slip > 10 || what < 0 || what > 1) {
            return BAD_LONG;
        }
        BigInteger[] chance = slipChance(bar, slip, missed, 0);
        return told(chance[0], chance[1], what);
    }

    // ---- cues, counts, evenings

    private BigInteger[] safety(int bits) {
        return slipChance(bars.size() - 1, 0, missed, bits);
    }

    long safe(int cues, int what) {
        if (cues < 0 || cues > 63 || what < 0 || what > 1) {
            return BAD_LONG;
        }
        int written = 0;
        for (int c = 0; c < cues(); c++) {
            written += cues >> c & 1;
        }
        if (written > 3) {
            return BAD_LONG;
        }
        if (bars.isEmpty()) {
            return NOT_LONG;
        }
        BigInteger[] chance = safety(cues);
        return told(chance[0], chance[1], what);
    }

    int write(int k) {
        if (k < 0 || k > 3 || k > cues()) {
            return BAD;
        }
        if (bars.isEmpty()) {
            return NOT;
        }
        int best = NONE;
        BigInteger[] most = null;
        for (int bits = 0; bits < 1 << cues(); bits++) {
            if (Integer.bitCount(bits) == k) {
                BigInteger[] chance = safety(bits);
                if (most == null || less(most, chance)) {
                    most = chance;
                    best = bits;
                }
            }
        }
        return best;
    }

    int few(int sixteenths) {
        if (sixteenths < 0 || sixteenths > 16) {
            return BAD;
        }
        if (bars.isEmpty()) {
            return NOT;
        }
        int best = NONE;
        BigInteger[] enough = {BigInteger.valueOf(sixteenths), SIXTEEN};
        for (int bits = 0; bits < 1 << cues(); bits++) {
            int n = Integer.bitCount(bits);
            if (n <= 3 && !less(safety(bits), enough) && (best == NONE || n < Integer.bitCount(best))) {
                best = bits;
            }
        }
        return best;
    }

    int anew(int cue) {
        if (cue < 0 || cue >= cues()) {
            return BAD;
        }
        int bar = barOfCue(cue);
        int all = 0;
        for (int c = 0; c < cues(); c++) {
            all += bars.get(barOfCue(c))[1] == bars.get(bar)[1] ? settings[0] : settings[1];
        }
        if (all == 0) {
            return 0;
        }
        BigInteger[] just = {BigInteger.valueOf(settings[0]), BigInteger.valueOf(all)};
        return less(slipChance(bar, 0, missed, 0), just) ? 1 : 0;
    }

    long joint(int a, int b, int what) {
        if (a < 0 || a > 16 || b < 0 || b > 16 || what < 0 || what > 1) {
            return BAD_LONG;
        }
        int right = a * b;
        int wrong = (16 - a) * (16 - b);
        if (right + wrong == 0) {
            return NOT_LONG;
        }
        return told(BigInteger.valueOf(right), BigInteger.valueOf(right + wrong), what);
    }

    private BigInteger[] trueIn(int e) {
        int[] then = new int[3];
        for (int k = 0; k < 3; k++) {
            int m = missed[k] - e * settings[7] / 4;
            m = (m < 0 ? 0 : m) + e * settings[8] / 8;
            then[k] = m + doubled[k] > 16 ? 16 - doubled[k] : m;
        }
        return slipChance(bars.size() - 1, 0, then, 0);
    }

    long evening(int e, int what) {
        if (e < 0 || e > 59 || what < 0 || what > 1) {
            return BAD_LONG;
        }
        if (bars.isEmpty()) {
            return NOT_LONG;
        }
        BigInteger[] chance = trueIn(e);
        return told(chance[0], chance[1], what);
    }

    int prime(int what) {
        if (what < 0 || what > 1) {
            return BAD;
        }
        if (bars.isEmpty()) {
            return NOT;
        }
        BigInteger[][] chances = new BigInteger[60][];
        int best = 0;
        for (int e = 0; e < 60; e++) {
            chances[e] = trueIn(e);
            if (less(chances[best], chances[e])) {
                best = e;
            }
        }
        int end = best;
        while (end < 60 && !less(chances[end], chances[best])) {
            end++;
        }
        return what == 0 ? best : end - best;
    }

    // ---- looks, record, nights

    int player(int bar, int worth) {
        if (bar < 1 || bar > 98 || worth < 1 || worth > 99) {
            return BAD;
        }
        if (players.size() == 8) {
            return FULL;
        }
        players.add(new int[] {bar, worth});
        return players.size();
    }

    int leave() {
        int had = players.size();
        players.clear();
        return had;
    }

    /** Whether looks in BARS of their own can be found for these, by trying all. */
    private boolean canAll(int bits, int who, boolean[] taken) {
        if (who == players.size()) {
            return true;
        }
        if ((bits >> who & 1) == 0) {
            return canAll(bits, who + 1, taken);
        }
        int comes = players.get(who)[0];
        for (int b = Math.max(0, comes - 3); b < comes; b++) {
            if (!taken[b]) {
                taken[b] = true;
                boolean can = canAll(bits, who + 1, taken);
                taken[b] = false;
                if (can) {
                    return true;
                }
            }
        }
        return false;
    }

    int worth(int what) {
        if (what < 0 || what > 1) {
            return BAD;
        }
        int most = 0;
        int best = 0;
        for (int bits = 0; bits < 1 << players.size(); bits++) {
            int sum = 0;
            for (int w = 0; w < players.size(); w++) {
                sum += (bits >> w & 1) * players.get(w)[1];
            }
            if (sum > most && canAll(bits, 0, new boolean[99])) {
                most = sum;
                best = bits;
            }
        }
        return what == 0 ? most : best;
    }

    int look(int bar) {
        if (bar < 0 || bar > 98) {
            return BAD;
        }
        int left = worth(1);
        int who = NONE;
        for (int b = 0; b <= bar; b++) {
            who = NONE;
            for (int w = 0; w < players.size(); w++) {
                int comes = players.get(w)[0];
                boolean can = (left >> w & 1) == 1 && comes - 3 <= b && b < comes;
                if (can && (who == NONE || comes < players.get(who)[0])) {
                    who = w;
                }
            }
            left &= who == NONE ? -1 : ~(1 << who);
        }
        return who;
    }

    int from(int bar) {
        if (bar < 0 || bar > 98) {
            return BAD;
        }
        int was = from;
        from = bar;
        return was;
    }

    int said(int number) {
        if (number < 1 || number > 110) {
            return BAD;
        }
        if (record.size() == 20) {
            return FULL;
        }
        record.add(number);
        return record.size();
    }

    private List<Integer> wrongPlaces() {
        List<Integer> places = new ArrayList<>();
        int ahead = from;
        for (int i = 0; i < record.size(); i++) {
            if (record.get(i) - ahead != 1) {
                places.add(i);
            }
            ahead = record.get(i);
        }
        return places;
    }

    int wrong(int what) {
        if (what < 0 || what > 1) {
            return BAD;
        }
        List<Integer> places = wrongPlaces();
        return what == 1 ? places.size() : places.isEmpty() ? NONE : places.get(0);
    }

    int blame() {
        if (wrongPlaces().isEmpty()) {
            return NONE;
        }
        int kind = bar(from + wrongPlaces().get(0) - 1, 0);
        return kind >= 0 && kind <= 2 ? kind : NONE;
    }

    int night(int seed, int n) {
        if (n < 0 || n > 99) {
            return -102;
        }
        int now = seed;
        int even = 0;
        for (int i = 0; i < Math.max(1, n); i++) {
            int slip = 0;
            for (int[] bar : bars) {
                if (bar[0] > 2) {
                    continue;
                }
                now = 1103515245 * now + 12345;
                int lot = (now >> 16 & 0xffff) % 16;
                boolean miss = lot < missed[bar[0]];
                boolean twice = !miss && lot < missed[bar[0]] + doubled[bar[0]];
                slip += miss ? -1 : twice ? 1 : 0;
            }
            if (n == 0) {
                return slip;
            }
            even += slip == 0 ? 1 : 0;
        }
        return even;
    }

    // ---- sheets

    private int found(int number) {
        finding = number;
        return -10 - number;
    }

    private static int formOf(Object row) {
        return row instanceof byte[] ? 0 : row instanceof short[] ? 1 : 2;
    }

    private static int sizeOf(Object row) {
        return java.lang.reflect.Array.getLength(row);
    }

    private static int itemOf(Object row, int i) {
        return ((Number) java.lang.reflect.Array.get(row, i)).intValue();
    }

    private static void setItem(Object row, int form, int i, int v) {
        if (form == 0) {
            ((byte[]) row)[i] = (byte) v;
        } else if (form == 1) {
            ((short[]) row)[i] = (short) v;
        } else {
            ((int[]) row)[i] = v;
        }
    }

    private int foundBy(RuntimeException thrown) {
        if (thrown instanceof NullPointerException) {
            return found(1);
        }
        if (thrown instanceof IndexOutOfBoundsException) {
            return found(2);
        }
        if (thrown instanceof ClassCastException) {
            return found(3);
        }
        if (thrown instanceof ArrayStoreException) {
            return found(4);
        }
        if (thrown instanceof NegativeArraySizeException) {
            return found(5);
        }
        throw thrown;
    }

    int sheet(int s, int form, int n) {
        if (s < 0 || s > 3 || form < 0 || form > 2 || n > 48) {
            return BAD;
        }
        try {
            sheets[s] = form == 0 ? (Object) new byte[n] : form == 1 ? new short[n] : new int[n];
            return n;
        } catch (RuntimeException thrown) {
            return foundBy(thrown);
        }
    }

    int lose(int s) {
        if (s < 0 || s > 3) {
            return BAD;
        }
        try {
            int had = sizeOf(sheets[s]);
            sheets[s] = null;
            return had;
        } catch (RuntimeException thrown) {
            return foundBy(thrown);
        }
    }

    int put(int s, int form, int i, int v) {
        if (s < 0 || s > 3 || form < 0 || form > 2) {
            return BAD;
        }
        try {
            setItem(sheets[s], form, i, v);
            return 1;
        } catch (RuntimeException thrown) {
            return foundBy(thrown);
        }
    }

    int get(int s, int form, int i) {
        if (s < 0 || s > 3 || form < 0 || form > 2) {
            return Integer.MIN_VALUE;
        }
        try {
            Object row = sheets[s];
            return form == 0 ? ((byte[]) row)[i] : form == 1 ? ((short[]) row)[i] : ((int[]) row)[i];
        } catch (RuntimeException thrown) {
            foundBy(thrown);
            return Integer.MIN_VALUE;
        }
    }

    int copy(int s, int i, int t, int j, int n) {
        if (s < 0 || s > 3 || t < 0 || t > 3) {
            return BAD;
        }
        try {
            System.arraycopy(sheets[s], i, sheets[t], j, n);
            return 1;
        } catch (RuntimeException thrown) {
            return foundBy(thrown);
        }
    }

    int tell(int s) {
        if (s < 0 || s > 3) {
            return BAD;
        }
        if (sheets[s] == null) {
            return found(1);
        }
        int n = 0;
        while (n < sizeOf(sheets[s]) && n < bars.size()) {
            setItem(sheets[s], formOf(sheets[s]), n, bars.get(n)[0]);
            n++;
        }
        return n;
    }

    int count(int what) {
        int[] counts = {bars.size(), text.length(), ofKind(0, 2), cues(), notes.size(),
            players.size(), record.size(), settings[0], finding};
        return what < 0 || what > 8 ? BAD : counts[what];
    }

    long digest() {
        List<Long> each = new ArrayList<>();
        for (int what = 0; what < 8; what++) {
            each.add((long) count(what));
        }
        each.add((long) fault());
        for (int number : new int[] {1, 10, 30}) {
            each.addAll(List.of(where(number, 9, 0), where(number, 9, 1), (long) likeliest(number),
                strike(number, 0), strike(number, 1)));
        }
        each.add((long) line());
        for (int slip = -2; slip <= 2; slip++) {
            each.addAll(List.of(slips(20, slip, 0), slips(20, slip, 1)));
        }
        each.addAll(List.of(safe(0, 0), safe(0, 1), safe(1, 0), safe(1, 1)));
        each.addAll(List.of((long) write(1), (long) write(2), (long) few(8)));
        for (int cue = 0; cue < cues(); cue++) {
            each.add((long) anew(cue));
        }
        each.addAll(List.of(joint(9, 12, 0), joint(9, 12, 1)));
        each.addAll(List.of(evening(0, 0), evening(0, 1), evening(9, 0), evening(9, 1)));
        each.addAll(List.of((long) prime(0), (long) prime(1)));
        each.addAll(List.of((long) worth(0), (long) worth(1), (long) look(9)));
        each.addAll(List.of((long) wrong(0), (long) wrong(1), (long) blame()));
        each.addAll(List.of((long) night(7, 0), (long) night(7, 20)));
        long h = 17;
        for (long one : each) {
            h = 31 * h + one;
        }
        return h;
    }
}
