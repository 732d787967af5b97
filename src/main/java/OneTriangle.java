import java.util.Arrays;

/** Counting bars up to the one stroke of a triangle; the document's promises 1 to 41. */
public final class OneTriangle {
    public static final int NONE = -1, BAD = -2, NOT = -3, FULL = -4;

    private static final int NULL = 1, INDEX = 2, CAST = 3, STORE = 4, SIZE = 5;

    private static final int DRIFT = 0, CHANGE = 2, PLAIN = 3, CUE = 4, STROKE = 5;

    private static final int KNOWN = 0, ALIKE = 1, STRAY = 2, RELY = 3, EARLY = 4, LEAVE = 5,
        HEARD = 6, LEARN = 7, BORED = 8;

    private static final int MOST_BARS = 99, MOST_NUMBER = 110, MOST_CUES = 6, MOST_WRITTEN = 3;

    private static final int EVENINGS = 60, SIXTEENTHS = 16, SHEETS = 4, FORMS = 3;

    /** A SLIP lies in -REACH to REACH, for a LOOSE BAR moves it by one at most, and there are ten. */
    private static final int REACH = 10, WIDTH = 2 * REACH + 1;

    private static final int[] DIGEST_NUMBERS = {1, 10, 30};

    /** Far more steps than Euclid takes with longs. */
    private static final int MOST_STEPS = 400;

    private final Piece piece;
    private final Settings settings;
    private final Odds usual;
    private final Odds later;
    private final Notes notes;
    private final Ways ways;
    private final Spread spread;
    private final Players players;
    private final Diary diary;
    private final Lots lots;
    private final Sheet[] sheets;
    private boolean waysAreOld;
    private int latestFinding;

    public OneTriangle() {
        piece = new Piece();
        settings = new Settings();
        usual = new Odds();
        later = new Odds();
        notes = new Notes();
        ways = new Ways(piece, usual, notes, settings);
        spread = new Spread(piece);
        players = new Players();
        diary = new Diary();
        lots = new Lots();
        sheets = new Sheet[SHEETS];
        for (int s = 0; s < sheets.length; s++) {
            sheets[s] = new Sheet();
        }
        waysAreOld = true;
        latestFinding = 0;
    }

    // ---- piece, odds

    public int type(int b) {
        if (!within(b, 0, 255)) {
            return BAD;
        }
        if (!piece.append(b)) {
            return FULL;
        }
        waysAreOld = true;
        return piece.size;
    }

    public int wipe() {
        int had = piece.size;
        piece.shorten(had);
        waysAreOld = true;
        return had;
    }

    public int undo() {
        if (piece.size == 0) {
            return NOT;
        }
        piece.shorten(1);
        waysAreOld = true;
        return piece.size;
    }

    public int fault() {
        return piece.faultPlace;
    }

    public int bar(int bar, int what) {
        if (!piece.hasBar(bar) || !within(what, 0, 2)) {
            return BAD;
        }
        if (what == 0) {
            return piece.kindOf(bar);
        }
        return what == 1 ? piece.tuneOf(bar) : piece.cueIn(bar);
    }

    public int odds(int kind, int missed, int doubled) {
        if (!within(kind, DRIFT, CHANGE) || !within(missed, 0, SIXTEENTHS)
            || !within(doubled, 0, SIXTEENTHS - missed)) {
            return BAD;
        }
        int were = 16 * usual.missedOf(kind) + usual.doubledOf(kind);
        usual.become(kind, missed, doubled);
        waysAreOld = true;
        return were;
    }

    public int set(int what, int v) {
        if (!within(what, KNOWN, BORED) || !within(v, 0, Settings.most(what))) {
            return BAD;
        }
        int was = settings.valueOf(what);
        settings.become(what, v);
        waysAreOld = true;
        return was;
    }

    public int read(int s) {
        Sheet from = sheetAt(s);
        if (from == null) {
            return BAD;
        }
        if (from.lost) {
            return found(NULL);
        }
        diary.clear();
        boolean going = true;
        for (int i = 0; i < from.size && going; i++) {
            int number = from.itemOf(i);
            going = isNumber(number) && diary.append(number);
        }
        return diary.size;
    }

    // ---- where he is

    public int hear(int number, int tune) {
        if (!isNumber(number) || !within(tune, 0, 3)) {
            return BAD;
        }
        return addNote(number, tune, NONE);
    }

    public int shown(int number, int bar) {
        if (!isNumber(number) || !within(bar, 0, MOST_BARS - 1)) {
            return BAD;
        }
        return addNote(number, NONE, bar);
    }

    public int forget() {
        int had = notes.size;
        notes.size = 0;
        waysAreOld = true;
        return had;
    }

    public long where(int number, int bar, int what) {
        if (!isNumber(number) || !piece.hasBar(bar) || !isPart(what)) {
            return refusal(BAD);
        }
        refreshWays();
        long all = ways.ofAll(number);
        return all == 0 ? refusal(NOT) : told(ways.saidIn(number, bar), all, what);
    }

    public int likeliest(int number) {
        if (!isNumber(number)) {
            return BAD;
        }
        refreshWays();
        int best = NOT;
        long most = 0;
        for (int bar = 0; bar < piece.bars; bar++) {
            long here = ways.saidIn(number, bar);
            if (here > most) {
                most = here;
                best = bar;
            }
        }
        return best;
    }

    public long strike(int number, int what) {
        if (!isNumber(number) || !isPart(what)) {
            return refusal(BAD);
        }
        refreshWays();
        long all = ways.ofAll(number);
        return all == 0 ? refusal(NOT) : told(costAbove(number), all, what);
    }

    public int line() {
        refreshWays();
        int best = NONE;
        long above = settings.valueOf(LEAVE);
        long below = 1;
        for (int number = 1; number <= MOST_NUMBER; number++) {
            long all = ways.ofAll(number);
            if (all != 0 && isLess(costAbove(number), all, above, below)) {
                best = number;
                above = costAbove(number);
                below = all;
            }
        }
        return best;
    }

    public long slips(int bar, int slip, int what) {
        if (!piece.hasBar(bar) || !within(slip, -REACH, REACH) || !isPart(what)) {
            return refusal(BAD);
        }
        spread.walk(usual, bar, 0, 0);
        return told(spread.chanceOf(slip), Spread.WHOLE, what);
    }

    // ---- cues, counts, evenings

    public long safe(int cues, int what) {
        if (!within(cues, 0, 63) || !isPart(what)) {
            return refusal(BAD);
        }
        int written = cues & ((1 << piece.cues) - 1);
        if (Integer.bitCount(written) > MOST_WRITTEN) {
            return refusal(BAD);
        }
        if (piece.bars == 0) {
            return refusal(NOT);
        }
        return told(safety(written), Spread.WHOLE, what);
    }

    public int write(int k) {
        if (!within(k, 0, Math.min(MOST_WRITTEN, piece.cues))) {
            return BAD;
        }
        if (piece.bars == 0) {
            return NOT;
        }
        int best = 0;
        long most = -1;
        for (int bits = 0; bits < 1 << piece.cues; bits++) {
            if (Integer.bitCount(bits) == k) {
                long chance = safety(bits);
                if (chance > most) {
                    most = chance;
                    best = bits;
                }
            }
        }
        return best;
    }

    public int few(int sixteenths) {
        if (!within(sixteenths, 0, SIXTEENTHS)) {
            return BAD;
        }
        if (piece.bars == 0) {
            return NOT;
        }
        long enough = Spread.WHOLE / SIXTEENTHS * sixteenths;
        for (int k = 0; k <= MOST_WRITTEN; k++) {
            for (int bits = 0; bits < 1 << piece.cues; bits++) {
                if (Integer.bitCount(bits) == k && safety(bits) >= enough) {
                    return bits;
                }
            }
        }
        return NONE;
    }

    public int anew(int cue) {
        if (!within(cue, 0, piece.cues - 1)) {
            return BAD;
        }
        int bar = piece.barOf(cue);
        long known = settings.valueOf(KNOWN);
        long heard = 0;
        for (int other = 0; other < piece.cues; other++) {
            boolean same = piece.tuneOf(piece.barOf(other)) == piece.tuneOf(bar);
            heard += same ? known : settings.valueOf(ALIKE);
        }
        spread.walk(usual, bar, 0, 0);
        // With nothing heard both sides are 0, which is not truly greater.
        return known * Spread.WHOLE > spread.chanceOf(0) * heard ? 1 : 0;
    }

    public long joint(int a, int b, int what) {
        if (!within(a, 0, SIXTEENTHS) || !within(b, 0, SIXTEENTHS) || !isPart(what)) {
            return refusal(BAD);
        }
        int right = a * b;
        int alike = right + (SIXTEENTHS - a) * (SIXTEENTHS - b);
        return alike == 0 ? refusal(NOT) : told(right, alike, what);
    }

    public long evening(int e, int what) {
        if (!within(e, 0, EVENINGS - 1) || !isPart(what)) {
            return refusal(BAD);
        }
        if (piece.bars == 0) {
            return refusal(NOT);
        }
        comeTo(e);
        return told(trueLater(), Spread.WHOLE, what);
    }

    public int prime(int what) {
        if (!within(what, 0, 1)) {
            return BAD;
        }
        if (piece.bars == 0) {
            return NOT;
        }
        int best = 0;
        int held = 0;
        long most = -1;
        long chance = 0;
        for (int e = 0; e < EVENINGS; e++) {
            // Most EVENINGS have the ODDS of the one before.
            if (comeTo(e) || e == 0) {
                chance = trueLater();
            }
            if (chance > most) {
                most = chance;
                best = e;
                held = 1;
            } else if (chance == most && best + held == e) {
                held++;
            }
        }
        return what == 0 ? best : held;
    }

    // ---- looks, record, nights

    public int player(int bar, int worth) {
        if (!within(bar, 1, MOST_BARS - 1) || !within(worth, 1, 99)) {
            return BAD;
        }
        return players.append(bar, worth) ? players.size : FULL;
    }

    public int leave() {
        int had = players.size;
        players.size = 0;
        return had;
    }

    public int worth(int what) {
        if (!within(what, 0, 1)) {
            return BAD;
        }
        int bits = players.bestBits();
        return what == 0 ? players.plan(bits) : bits;
    }

    public int look(int bar) {
        if (!within(bar, 0, MOST_BARS - 1)) {
            return BAD;
        }
        players.plan(players.bestBits());
        return players.lookedAtIn(bar);
    }

    public int from(int bar) {
        if (!within(bar, 0, MOST_BARS - 1)) {
            return BAD;
        }
        int was = diary.firstBar;
        diary.firstBar = bar;
        return was;
    }

    public int said(int number) {
        if (!isNumber(number)) {
            return BAD;
        }
        return diary.append(number) ? diary.size : FULL;
    }

    public int wrong(int what) {
        if (!within(what, 0, 1)) {
            return BAD;
        }
        return what == 0 ? diary.firstWrong() : diary.allWrong();
    }

    public int blame() {
        int place = diary.firstWrong();
        int ahead = diary.firstBar + place - 1;
        return place != NONE && piece.isLoose(ahead) ? piece.kindOf(ahead) : NONE;
    }

    public int night(int seed, int n) {
        if (!within(n, 0, 99)) {
            return -100 + BAD;
        }
        lots.seed = seed;
        if (n == 0) {
            return slipOfNight();
        }
        int even = 0;
        for (int i = 0; i < n; i++) {
            if (slipOfNight() == 0) {
                even++;
            }
        }
        return even;
    }

    // ---- sheets

    public int sheet(int s, int form, int n) {
        Sheet made = sheetAt(s);
        if (made == null || !within(form, 0, FORMS - 1) || n > Sheet.MOST_ITEMS) {
            return BAD;
        }
        if (n < 0) {
            return found(SIZE);
        }
        made.renew(form, n);
        return n;
    }

    public int lose(int s) {
        Sheet gone = sheetAt(s);
        if (gone == null) {
            return BAD;
        }
        if (gone.lost) {
            return found(NULL);
        }
        gone.lost = true;
        return gone.size;
    }

    public int put(int s, int form, int i, int v) {
        Sheet into = sheetAt(s);
        if (into == null || !within(form, 0, FORMS - 1)) {
            return BAD;
        }
        int finding = into.findingAt(form, i);
        if (finding != 0) {
            return found(finding);
        }
        into.become(i, v);
        return 1;
    }

    public int get(int s, int form, int i) {
        Sheet of = sheetAt(s);
        if (of == null || !within(form, 0, FORMS - 1)) {
            return Integer.MIN_VALUE;
        }
        int finding = of.findingAt(form, i);
        if (finding != 0) {
            latestFinding = finding;
            return Integer.MIN_VALUE;
        }
        return of.itemOf(i);
    }

    public int copy(int s, int i, int t, int j, int n) {
        Sheet of = sheetAt(s);
        Sheet into = sheetAt(t);
        if (of == null || into == null) {
            return BAD;
        }
        if (of.lost || into.lost) {
            return found(NULL);
        }
        if (of.form != into.form) {
            return found(STORE);
        }
        if (!of.hasItems(i, n) || !into.hasItems(j, n)) {
            return found(INDEX);
        }
        System.arraycopy(of.items, i, into.items, j, n);
        return 1;
    }

    public int tell(int s) {
        Sheet into = sheetAt(s);
        if (into == null) {
            return BAD;
        }
        if (into.lost) {
            return found(NULL);
        }
        int told = Math.min(into.size, piece.bars);
        for (int i = 0; i < told; i++) {
            into.become(i, piece.kindOf(i));
        }
        return told;
    }

    public int count(int what) {
        switch (what) {
            case 0:
                return piece.bars;
            case 1:
                return piece.size;
            case 2:
                return piece.loose;
            case 3:
                return piece.cues;
            case 4:
                return notes.size;
            case 5:
                return players.size;
            case 6:
                return diary.size;
            case 7:
                return settings.valueOf(KNOWN);
            case 8:
                return latestFinding;
            default:
                return BAD;
        }
    }

    public long digest() {
        long h = 17;
        for (int what = 0; what <= 7; what++) {
            h = mixed(h, count(what));
        }
        h = mixed(h, fault());
        for (int i = 0; i < DIGEST_NUMBERS.length; i++) {
            int number = DIGEST_NUMBERS[i];
            h = mixed(mixed(h, where(number, 9, 0)), where(number, 9, 1));
            h = mixed(h, likeliest(number));
            h = mixed(mixed(h, strike(number, 0)), strike(number, 1));
        }
        h = mixed(h, line());
        for (int slip = -2; slip <= 2; slip++) {
            h = mixed(mixed(h, slips(20, slip, 0)), slips(20, slip, 1));
        }
        for (int bits = 0; bits <= 1; bits++) {
            h = mixed(mixed(h, safe(bits, 0)), safe(bits, 1));
        }
        h = mixed(mixed(mixed(h, write(1)), write(2)), few(8));
        for (int cue = 0; cue < piece.cues; cue++) {
            h = mixed(h, anew(cue));
        }
        h = mixed(mixed(h, joint(9, 12, 0)), joint(9, 12, 1));
        for (int e = 0; e <= 9; e += 9) {
            h = mixed(mixed(h, evening(e, 0)), evening(e, 1));
        }
        h = mixed(mixed(h, prime(0)), prime(1));
        h = mixed(mixed(mixed(h, worth(0)), worth(1)), look(9));
        h = mixed(mixed(mixed(h, wrong(0)), wrong(1)), blame());
        return mixed(mixed(h, night(7, 0)), night(7, 20));
    }

    // ---- what the calls share

    private static boolean within(int v, int least, int most) {
        return v >= least && v <= most;
    }

    private static boolean isNumber(int number) {
        return within(number, 1, MOST_NUMBER);
    }

    /** Of a FRACTION above (0) or below (1) is told. */
    private static boolean isPart(int what) {
        return within(what, 0, 1);
    }

    private static long refusal(int refused) {
        return Long.MIN_VALUE - refused;
    }

    private int found(int finding) {
        latestFinding = finding;
        return -10 - finding;
    }

    private Sheet sheetAt(int s) {
        return s >= 0 && s < sheets.length ? sheets[s] : null;
    }

    private int addNote(int number, int tune, int bar) {
        if (!notes.append(number, tune, bar)) {
            return FULL;
        }
        waysAreOld = true;
        return notes.size;
    }

    private void refreshWays() {
        if (waysAreOld) {
            ways.find();
            waysAreOld = false;
        }
    }

    /** The mean cost of a stroke at a number, times all that weighs there: 99 times 2^56 at most. */
    private long costAbove(int number) {
        long inStroke = ways.saidIn(number, piece.bars - 1);
        return settings.valueOf(EARLY) * (ways.ofAll(number) - inStroke);
    }

    private long safety(int bits) {
        spread.walk(usual, piece.bars - 1, bits, settings.valueOf(HEARD));
        return spread.chanceOf(0);
    }

    /** Whether the ODDS of that EVENING are others than those of the one looked at before. */
    private boolean comeTo(int e) {
        boolean others = false;
        int less = e * settings.valueOf(LEARN) / 4;
        int more = e * settings.valueOf(BORED) / 8;
        for (int kind = DRIFT; kind <= CHANGE; kind++) {
            int doubled = usual.doubledOf(kind);
            int missed = Math.max(0, usual.missedOf(kind) - less) + more;
            missed = Math.min(missed, SIXTEENTHS - doubled);
            others = others || missed != later.missedOf(kind) || doubled != later.doubledOf(kind);
            later.become(kind, missed, doubled);
        }
        return others;
    }

    private long trueLater() {
        spread.walk(later, piece.bars - 1, 0, 0);
        return spread.chanceOf(0);
    }

    private int slipOfNight() {
        int slip = 0;
        for (int bar = 0; bar < piece.bars; bar++) {
            if (piece.isLoose(bar)) {
                int kind = piece.kindOf(bar);
                int missed = usual.missedOf(kind);
                int lot = lots.draw();
                if (lot < missed) {
                    slip--;
                } else if (lot < missed + usual.doubledOf(kind)) {
                    slip++;
                }
            }
        }
        return slip;
    }

    private static long mixed(long h, long v) {
        return 31 * h + v;
    }

    private static long told(long above, long below, int what) {
        long common = greatestCommon(above, below);
        long part = what == 0 ? above : below;
        return common == 0 ? part : part / common;
    }

    private static long greatestCommon(long a, long b) {
        long big = a;
        long small = b;
        for (int step = 0; step < MOST_STEPS && small != 0; step++) {
            long rest = big % small;
            big = small;
            small = rest;
        }
        return big;
    }

    /**
     * Whether a by b is truly less than c by d, none of them below 0. Cross products would need
     * more than a long, so the whole parts are compared, then what is left, upside down.
     */
    private static boolean isLess(long a, long b, long c, long d) {
        long above = a;
        long below = b;
        long otherAbove = c;
        long otherBelow = d;
        for (int step = 0; step < MOST_STEPS && below != 0 && otherBelow != 0; step++) {
            long whole = above / below;
            long otherWhole = otherAbove / otherBelow;
            if (whole != otherWhole) {
                return whole < otherWhole;
            }
            long rest = above % below;
            long otherRest = otherAbove % otherBelow;
            if (rest == 0 || otherRest == 0) {
                return otherRest != 0;
            }
            above = otherBelow;
            otherAbove = below;
            below = otherRest;
            otherBelow = rest;
        }
        return false;
    }

    private static int itemAt(int[] row, int i) {
        return i >= 0 && i < row.length ? row[i] : 0;
    }

    private static long longAt(long[] row, int i) {
        return i >= 0 && i < row.length ? row[i] : 0;
    }

    private static void addTo(long[] row, int i, long v) {
        if (i >= 0 && i < row.length) {
            row[i] += v;
        }
    }

    /** The text, and what it says once it is without a FAULT. */
    private static final class Piece {
        private static final int MOST_BYTES = 60, MOST_LOOSE = 10;

        private final int[] bytes = new int[MOST_BYTES];
        private final int[] kinds = new int[MOST_BARS];
        /** By BAR: which CUE it is and its tune, else NONE. */
        private final int[] cueByBar = new int[MOST_BARS];
        private final int[] tunes = new int[MOST_BARS];
        private final int[] barByCue = new int[MOST_CUES];
        private int size = 0;
        private int bars = 0;
        private int loose = 0;
        private int cues = 0;
        private int faultPlace = NONE;

        boolean append(int b) {
            if (size < 0 || size >= MOST_BYTES) {
                return false;
            }
            bytes[size] = b;
            size++;
            understand();
            return true;
        }

        void shorten(int by) {
            size = Math.max(0, size - by);
            understand();
        }

        boolean hasBar(int bar) {
            return bar >= 0 && bar < bars;
        }

        boolean isLoose(int bar) {
            return hasBar(bar) && itemAt(kinds, bar) <= CHANGE;
        }

        int kindOf(int bar) {
            return itemAt(kinds, bar);
        }

        int cueIn(int bar) {
            return hasBar(bar) ? itemAt(cueByBar, bar) : NONE;
        }

        int tuneOf(int bar) {
            return hasBar(bar) ? itemAt(tunes, bar) : NONE;
        }

        int barOf(int cue) {
            return itemAt(barByCue, cue);
        }

        private void understand() {
            bars = 0;
            loose = 0;
            cues = 0;
            faultPlace = NONE;
            int place = 0;
            boolean open = size > 0;
            for (int turn = 0; turn <= MOST_BYTES && open && faultPlace == NONE; turn++) {
                open = byteAt(place) != 'x';
                place = passed(place);
            }
            if (faultPlace == NONE && place < size) {
                faultPlace = place;
            }
            if (faultPlace != NONE) {
                bars = 0;
                loose = 0;
                cues = 0;
            }
        }

        /** What is at the text's end is no byte, so the text cannot go on with it. */
        private int byteAt(int place) {
            return place < size ? itemAt(bytes, place) : NONE;
        }

        /** Takes what begins at a place: the place behind it; else that is where the FAULT is. */
        private int passed(int place) {
            switch (byteAt(place)) {
                case 'p':
                    return passedPlain(place);
                case 'd':
                    return passedLoose(place, DRIFT);
                case 'w':
                    return passedLoose(place, DRIFT + 1);
                case 'm':
                    return passedLoose(place, CHANGE);
                case 'c':
                    return passedCue(place);
                case 'x':
                    return addBars(1, STROKE) ? place + 1 : faultAt(place);
                default:
                    return faultAt(place);
            }
        }

        private int passedPlain(int place) {
            int tens = byteAt(place + 1) - '0';
            if (!within(tens, 0, 9)) {
                return faultAt(place + 1);
            }
            int ones = byteAt(place + 2) - '0';
            if (!within(ones, 0, 9) || tens + ones == 0 || !addBars(10 * tens + ones, PLAIN)) {
                return faultAt(place + 2);
            }
            return place + 3;
        }

        private int passedLoose(int place, int kind) {
            if (loose >= MOST_LOOSE || !addBars(1, kind)) {
                return faultAt(place);
            }
            loose++;
            return place + 1;
        }

        private int passedCue(int place) {
            int bar = bars;
            if (cues < 0 || cues >= MOST_CUES || !addBars(1, CUE)) {
                return faultAt(place);
            }
            int tune = byteAt(place + 1) - 'a';
            if (!within(tune, 0, 3) || !within(bar, 0, MOST_BARS - 1)) {
                return faultAt(place + 1);
            }
            cueByBar[bar] = cues;
            tunes[bar] = tune;
            barByCue[cues] = bar;
            cues++;
            return place + 2;
        }

        private boolean addBars(int n, int kind) {
            if (bars + n > MOST_BARS) {
                return false;
            }
            for (int i = Math.max(0, bars); i < bars + n && i < MOST_BARS; i++) {
                kinds[i] = kind;
                cueByBar[i] = NONE;
                tunes[i] = NONE;
            }
            bars += n;
            return true;
        }

        private int faultAt(int place) {
            faultPlace = place;
            return place;
        }
    }

    /** KNOWN to BORED, as set() numbers them. */
    private static final class Settings {
        private static final int[] MOST = {16, 16, 16, 16, 99, 99, 16, 4, 4};

        private final int[] values = {14, 2, 1, 13, 20, 30, 12, 1, 1};

        static int most(int what) {
            return itemAt(MOST, what);
        }

        int valueOf(int what) {
            return what >= 0 && what < values.length ? values[what] : 0;
        }

        void become(int what, int v) {
            if (what >= 0 && what < values.length) {
                values[what] = v;
            }
        }
    }

    /** Of sixteen times how often each kind of LOOSE BAR is MISSED and DOUBLED. */
    private static final class Odds {
        private final int[] missed = {2, 1, 3};
        private final int[] doubled = {1, 3, 2};

        int missedOf(int kind) {
            return itemAt(missed, kind);
        }

        int doubledOf(int kind) {
            return itemAt(doubled, kind);
        }

        void become(int kind, int newMissed, int newDoubled) {
            if (kind >= 0 && kind < missed.length && kind < doubled.length) {
                missed[kind] = newMissed;
                doubled[kind] = newDoubled;
            }
        }
    }

    /** What he heard, or was shown, at numbers. */
    private static final class Notes {
        private static final int MOST_NOTES = 4;

        private final int[] numbers = new int[MOST_NOTES];
        /** NONE: the NOTE is of a BAR that a neighbour showed. */
        private final int[] tunes = new int[MOST_NOTES];
        private final int[] shownBars = new int[MOST_NOTES];
        private int size = 0;

        boolean append(int number, int tune, int bar) {
            if (size < 0 || size >= MOST_NOTES) {
                return false;
            }
            numbers[size] = number;
            tunes[size] = tune;
            shownBars[size] = bar;
            size++;
            return true;
        }

        /** By all NOTES of a number, if it was said in a BAR with that tune (NONE: no CUE). */
        long weigh(int number, int bar, int tune, Settings settings) {
            long weight = 1;
            for (int i = 0; i < size && i < MOST_NOTES; i++) {
                if (numbers[i] != number) {
                    continue;
                }
                if (tunes[i] == NONE) {
                    int rely = settings.valueOf(RELY);
                    weight *= shownBars[i] == bar ? rely : SIXTEENTHS - rely;
                } else if (tune == NONE) {
                    weight *= settings.valueOf(STRAY);
                } else {
                    weight *= settings.valueOf(tune == tunes[i] ? KNOWN : ALIKE);
                }
            }
            return weight;
        }
    }

    /**
     * How much all ways weigh by which a number is said in a BAR, NOTES of later numbers aside.
     * All are told in parts of 16^10, ten LOOSE BARS at most dividing by 16 each, so nothing is
     * cut; with four NOTES of 16 at most all that weighs together is 2^56 at most.
     */
    private static final class Ways {
        private static final long START = 1L << 40;

        private final Piece piece;
        private final Odds odds;
        private final Notes notes;
        private final Settings settings;
        /** By BAR, then by how far the number is ahead of that BAR's own (and REACH more). */
        private final long[] said = new long[MOST_BARS * WIDTH];
        private final long[] all = new long[MOST_NUMBER + 1];
        /** By SLIP (and REACH more), behind the BARS so far. */
        private final long[] now = new long[WIDTH];
        private final long[] next = new long[WIDTH];

        Ways(Piece piece, Odds odds, Notes notes, Settings settings) {
            this.piece = piece;
            this.odds = odds;
            this.notes = notes;
            this.settings = settings;
        }

        long ofAll(int number) {
            return longAt(all, number);
        }

        long saidIn(int number, int bar) {
            int place = number - 1 - bar + REACH;
            return piece.hasBar(bar) && within(place, 0, WIDTH - 1) ? longAt(said, bar * WIDTH + place) : 0;
        }

        void find() {
            Arrays.fill(said, 0);
            Arrays.fill(all, 0);
            Arrays.fill(now, 0);
            addTo(now, REACH, START);
            int furthest = 0;
            for (int bar = 0; bar < piece.bars; bar++) {
                Arrays.fill(next, 0);
                for (int place = REACH - furthest; place <= REACH + furthest; place++) {
                    if (longAt(now, place) != 0) {
                        pass(bar, place);
                    }
                }
                System.arraycopy(next, 0, now, 0, WIDTH);
                furthest = piece.isLoose(bar) ? Math.min(REACH, furthest + 1) : furthest;
            }
        }

        private void pass(int bar, int place) {
            int tune = piece.tuneOf(bar);
            int number = bar + place - REACH + 1;
            long before = longAt(now, place);
            long first = notes.weigh(number, bar, tune, settings);
            if (!piece.isLoose(bar)) {
                addTo(next, place, before * first);
                addSaid(bar, place, before * first);
                return;
            }
            int kind = piece.kindOf(bar);
            int missed = odds.missedOf(kind);
            int doubled = odds.doubledOf(kind);
            long part = before / SIXTEENTHS;
            long once = part * (SIXTEENTHS - missed - doubled) * first;
            long both = part * doubled * first;
            long behindBoth = both * notes.weigh(number + 1, bar, tune, settings);
            addTo(next, place - 1, part * missed);
            addTo(next, place, once);
            addTo(next, place + 1, behindBoth);
            addSaid(bar, place, once + both);
            addSaid(bar, place + 1, behindBoth);
        }

        private void addSaid(int bar, int place, long weight) {
            if (within(place, 0, WIDTH - 1)) {
                addTo(said, bar * WIDTH + place, weight);
                addTo(all, bar + place - REACH + 1, weight);
            }
        }
    }

    /**
     * The chances of each SLIP, NOTES aside, in parts of 16^13: ten LOOSE BARS and three WRITTEN
     * CUES at most divide by 16 each, so nothing is cut.
     */
    private static final class Spread {
        private static final long WHOLE = 1L << 52;

        private final Piece piece;
        private final long[] now = new long[WIDTH];
        private final long[] next = new long[WIDTH];

        Spread(Piece piece) {
            this.piece = piece;
        }

        long chanceOf(int slip) {
            return longAt(now, slip + REACH);
        }

        /** From BAR 0 on through all BARS ahead of one, with these WRITTEN CUES. */
        void walk(Odds odds, int end, int written, int heard) {
            Arrays.fill(now, 0);
            Arrays.fill(next, 0);
            addTo(now, REACH, WHOLE);
            int furthest = 0;
            for (int bar = 0; bar < end; bar++) {
                if (piece.isLoose(bar)) {
                    int kind = piece.kindOf(bar);
                    furthest = Math.min(REACH, furthest + 1);
                    drift(odds.missedOf(kind), odds.doubledOf(kind), furthest);
                } else if (piece.cueIn(bar) != NONE && (written >> piece.cueIn(bar) & 1) == 1) {
                    gather(heard);
                }
            }
        }

        private void drift(int missed, int doubled, int furthest) {
            int once = SIXTEENTHS - missed - doubled;
            for (int i = Math.max(0, REACH - furthest); i <= REACH + furthest && i < WIDTH; i++) {
                next[i] = longAt(now, i + 1) / SIXTEENTHS * missed
                    + longAt(now, i) / SIXTEENTHS * once
                    + longAt(now, i - 1) / SIXTEENTHS * doubled;
            }
            System.arraycopy(next, 0, now, 0, WIDTH);
        }

        private void gather(int heard) {
            for (int i = 0; i < WIDTH; i++) {
                now[i] = now[i] / SIXTEENTHS * (SIXTEENTHS - heard);
            }
            addTo(now, REACH, WHOLE / SIXTEENTHS * heard);
        }
    }

    /** Whom the conductor looks at, and when. */
    private static final class Players {
        private static final int MOST_PLAYERS = 8, AHEAD = 3;

        private final int[] bars = new int[MOST_PLAYERS];
        private final int[] worths = new int[MOST_PLAYERS];
        /** By who comes in sooner, of like ones the earlier told. */
        private final int[] order = new int[MOST_PLAYERS];
        private final int[] looks = new int[MOST_PLAYERS];
        private int size = 0;

        boolean append(int bar, int worth) {
            if (size < 0 || size >= MOST_PLAYERS) {
                return false;
            }
            bars[size] = bar;
            worths[size] = worth;
            int place = size;
            for (int i = size; i > 0 && itemAt(bars, order[i - 1]) > bar; i--) {
                order[i] = order[i - 1];
                place = i - 1;
            }
            order[place] = size;
            size++;
            return true;
        }

        int bestBits() {
            int best = 0;
            int most = 0;
            for (int bits = 1; bits < 1 << size; bits++) {
                int worth = plan(bits);
                if (worth > most) {
                    most = worth;
                    best = bits;
                }
            }
            return best;
        }

        /**
         * Looks at each of these as soon as may be: what they are worth; NONE: not all can be.
         * Who comes in sooner can also be looked at sooner, so taking them in that order is best.
         */
        int plan(int bits) {
            Arrays.fill(looks, NONE);
            int free = 0;
            int sum = 0;
            for (int i = 0; i < size && i < MOST_PLAYERS; i++) {
                int who = order[i];
                if (!within(who, 0, MOST_PLAYERS - 1) || (bits >> who & 1) == 0) {
                    continue;
                }
                int when = Math.max(free, bars[who] - AHEAD);
                if (when >= bars[who]) {
                    return NONE;
                }
                looks[who] = when;
                free = when + 1;
                sum += worths[who];
            }
            return sum;
        }

        int lookedAtIn(int bar) {
            for (int who = 0; who < size && who < MOST_PLAYERS; who++) {
                if (looks[who] == bar) {
                    return who;
                }
            }
            return NONE;
        }
    }

    /** THE RECORD. */
    private static final class Diary {
        private static final int MOST_SAID = 20;

        private final int[] numbers = new int[MOST_SAID];
        private int size = 0;
        private int firstBar = 0;

        void clear() {
            size = 0;
        }

        boolean append(int number) {
            if (size < 0 || size >= MOST_SAID) {
                return false;
            }
            numbers[size] = number;
            size++;
            return true;
        }

        int firstWrong() {
            for (int place = 0; place < size; place++) {
                if (isWrong(place)) {
                    return place;
                }
            }
            return NONE;
        }

        int allWrong() {
            int n = 0;
            for (int place = 0; place < size; place++) {
                if (isWrong(place)) {
                    n++;
                }
            }
            return n;
        }

        private boolean isWrong(int place) {
            int ahead = place == 0 ? firstBar : itemAt(numbers, place - 1);
            return itemAt(numbers, place) != ahead + 1;
        }
    }

    /** LOTS of 16. */
    private static final class Lots {
        private int seed = 0;

        int draw() {
            seed = 1103515245 * seed + 12345;
            return (seed >>> 16) % SIXTEENTHS;
        }
    }

    /** One row of items, made once; it is LOST until it is renewed. */
    private static final class Sheet {
        private static final int MOST_ITEMS = 48, OF_BYTES = 0, OF_SHORTS = 1;

        private final int[] items = new int[MOST_ITEMS];
        private boolean lost = true;
        private int form = OF_BYTES;
        private int size = 0;

        void renew(int newForm, int n) {
            Arrays.fill(items, 0);
            lost = false;
            form = newForm;
            size = n;
        }

        /** What stands against item i, treated as of a FORM; 0: nothing. */
        int findingAt(int asForm, int i) {
            if (lost) {
                return NULL;
            }
            if (asForm != form) {
                return CAST;
            }
            return hasItems(i, 1) ? 0 : INDEX;
        }

        /** Lengths are compared by what is left, so that no sum wraps. */
        boolean hasItems(int i, int n) {
            return i >= 0 && n >= 0 && i <= size && n <= size - i;
        }

        int itemOf(int i) {
            return itemAt(items, i);
        }

        void become(int i, int v) {
            if (i >= 0 && i < items.length) {
                items[i] = form == OF_BYTES ? (byte) v : form == OF_SHORTS ? (short) v : v;
            }
        }
    }
}
