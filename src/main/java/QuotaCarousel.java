/**
 * Units under odds, all chosen at once as a wheel is turned to a start.
 *
 * No call makes an object: all rows are made with the carousel and used again, because
 * everything that a run of calls makes stays in one room of limited size.
 */
public final class QuotaCarousel {
    public static final int NONE = -1, BAD = -2, STATE = -3, FULL = -4, NOT = -5, OVER = -7;

    private static final int HOST = -9, NOTHING = -11, PLACE = -13, BELOW = -14;
    private static final int FAULTS = -100, CLAUSES = -300;
    private static final long LONGS = 4000000000000000000L;

    private static final int MOST_UNITS = 12, MOST_RUNS = MOST_UNITS + 1;
    private static final int MOST_BELOW = 60, MOST_STRATUM = 3, MOST_MARK = 99, MOST_DRAWN = 60;
    private static final int MOST_BYTES = 120, MOST_LETTER = 127, MOST_LONGS = 15, LISTS = 3;
    private static final int FIRST = 0, SECOND = 1, NEXT = 2, ROWS = 3;
    private static final int BY_FIRST = 1, BY_STRATA = 2, BY_MARKS = 3, BY_STRATA_AND_MARKS = 4, BY_HAND = 5;
    private static final long GREATEST_INT = 2147483647L, LEAST_LONG = 1L << 63;
    private static final long DRAW_TIMES = 6364136223846793005L, DRAW_PLUS = 1442695040888963407L;
    private static final int DRAW_DROPPED = 33;
    // Euclid needs fewer than a hundred steps for any two longs.
    private static final int GCD_STEPS = 1000;

    private final Roster now = new Roster(), picture = new Roster(), before = new Roster();
    private boolean pictured = false;
    private final Wheel wheel = new Wheel(), second = new Wheel();
    private final Runs runs = new Runs();
    private final Ratio total = new Ratio(), term = new Ratio(), piece = new Ratio();
    private final Replacement replacement = new Replacement();
    private final Tape tape = new Tape();
    private final Reason latest = new Reason();
    private final Row[] rows = new Row[LISTS];

    public QuotaCarousel() {
        for (int i = 0; i < LISTS; i++) {
            rows[i] = new Row();
        }
    }

    // ---- units

    public int unit(int above, int below, int stratum, int mark) {
        return answered(now.admit(above, below, stratum, mark));
    }

    public int odds(int unit, int row, int above, int below) {
        return answered(now.changeOdds(unit, row, above, below));
    }

    public int set(int unit, int what, int v) {
        if (!now.has(unit) || what < 0 || what > 1) {
            return refuse(NONE);
        }
        return answered(what == 0 ? now.changeStratum(unit, v) : now.changeRefusing(unit, v));
    }

    public int mark(int unit, int v) {
        return answered(now.changeMark(unit, v));
    }

    public long of(int unit, int what) {
        if (!now.has(unit) || what < 0 || what > 3) {
            return refuseLong(NONE);
        }
        switch (what) {
            case 0: return now.stratumOf[unit];
            case 1: return now.isRefusing(unit) ? 1 : 0;
            case 2: return now.markOf[unit];
            default: return now.placeOf(unit);
        }
    }

    public long fraction(int unit, int row, int part) {
        if (!now.has(unit) || !isRow(row)) {
            return refuseLong(NONE);
        }
        if (!isPart(part)) {
            return refuseLong(BAD);
        }
        return lowest(now.above(unit, row), now.below(unit, row), part);
    }

    public int order(int order) {
        return answered(now.changeOrder(order));
    }

    public int at(int place) {
        return answered(now.unitAt(place));
    }

    public int swap(int p, int q) {
        return answered(now.exchange(p, q));
    }

    // ---- the wheel

    public int common(int row) {
        if (!isRow(row)) {
            return refuse(NONE);
        }
        long places = now.places(row);
        return places > 0 ? (int) places : refuse(OVER);
    }

    public int parts(int unit) {
        if (!now.has(unit)) {
            return refuse(NONE);
        }
        long places = now.places(FIRST);
        return places > 0 ? (int) now.partsOf(unit, FIRST, places) : refuse(OVER);
    }

    public int size(int what) {
        if (what < 0 || what > 1) {
            return refuse(NONE);
        }
        long places = now.places(FIRST);
        if (places < 1) {
            return refuse(OVER);
        }
        long all = now.partsOfAll(FIRST, places);
        return (int) ((what == 0 ? all : all + places - 1) / places);
    }

    public int chosen(int start) {
        if (!layWheel()) {
            return refuse(OVER);
        }
        return wheel.hasPlace(start) ? wheel.chosenBy(start) : refuse(BAD);
    }

    public int run(int k, int what) {
        if (k < -1 || what < 0 || what > 2) {
            return refuse(NONE);
        }
        if (!layWheel()) {
            return refuse(OVER);
        }
        runs.trace(wheel);
        if (k == -1) {
            return runs.number;
        }
        if (k >= runs.number) {
            return refuse(NOT);
        }
        switch (what) {
            case 0: return (int) runs.firstStart[k];
            case 1: return (int) runs.starts[k];
            default: return runs.who[k];
        }
    }

    public long joint(int one, int other, int part) {
        if (!now.has(one) || !now.has(other)) {
            return refuseLong(NONE);
        }
        if (!isPart(part)) {
            return refuseLong(BAD);
        }
        if (!layWheel()) {
            return refuseLong(OVER);
        }
        return lowest(wheel.together(one, other), wheel.places, part);
    }

    public long joints(int unit, int part) {
        if (!now.has(unit)) {
            return refuseLong(NONE);
        }
        if (!isPart(part)) {
            return refuseLong(BAD);
        }
        if (!layWheel()) {
            return refuseLong(OVER);
        }
        long sum = 0;
        for (int i = 0; i < now.units; i++) {
            sum += wheel.together(unit, i);
        }
        return lowest(sum, wheel.places, part);
    }

    public int fair(int stratum) {
        if (stratum < 0 || stratum > MOST_STRATUM) {
            return refuse(NONE);
        }
        if (!layWheel()) {
            return refuse(OVER);
        }
        runs.trace(wheel);
        return isFair(stratum) ? 1 : 0;
    }

    public long estimate(int start, int part) {
        if (!isPart(part)) {
            return refuseLong(BAD);
        }
        if (!layWheel()) {
            return refuseLong(OVER);
        }
        if (!wheel.hasPlace(start)) {
            return refuseLong(BAD);
        }
        total.begin(0, 1);
        addEstimate(total, wheel.chosenBy(start));
        return partOf(total, part);
    }

    public long mean(int part) {
        return overAllRuns(part, false);
    }

    public long spread(int part) {
        return overAllRuns(part, true);
    }

    // ---- twice, kept, replaced

    public int twice(int start, int again) {
        if (!layWheel()) {
            return refuse(OVER);
        }
        long places = now.places(SECOND);
        if (places < 1) {
            return refuse(OVER);
        }
        if (!wheel.hasPlace(start) || again < 0 || again >= places) {
            return refuse(BAD);
        }
        second.lay(now, SECOND, places, wheel.chosenBy(start));
        return second.chosenBy(again);
    }

    public long both(int one, int other, int part) {
        if (!now.has(one) || !now.has(other)) {
            return refuseLong(NONE);
        }
        if (!isPart(part)) {
            return refuseLong(BAD);
        }
        long places = now.places(SECOND);
        if (!layWheel() || places < 1) {
            return refuseLong(OVER);
        }
        // Both sizes are below 2 to the 31st, so neither product leaves the longs.
        return lowest(pairsOfBoth(one, other, places), wheel.places * places, part);
    }

    public long kept(int unit, int shift, int part) {
        if (!now.has(unit)) {
            return refuseLong(NONE);
        }
        if (!isPart(part)) {
            return refuseLong(BAD);
        }
        if (!layBothTimes()) {
            return refuseLong(OVER);
        }
        if (!wheel.hasPlace(shift)) {
            return refuseLong(BAD);
        }
        return lowest(keptBy(unit, shift), wheel.places, part);
    }

    public long overlap(int shift, int part) {
        if (!isPart(part)) {
            return refuseLong(BAD);
        }
        if (!layBothTimes()) {
            return refuseLong(OVER);
        }
        if (!wheel.hasPlace(shift)) {
            return refuseLong(BAD);
        }
        return lowest(allKeptBy(shift), wheel.places, part);
    }

    public int shift(int what) {
        if (what < 0 || what > 1) {
            return refuse(NONE);
        }
        if (!layBothTimes()) {
            return refuse(OVER);
        }
        return (int) extremeShift(what == 0 ? 1 : -1);
    }

    public int replaced(int start, int manner) {
        if (!isManner(manner)) {
            return refuse(NONE);
        }
        if (!layWheel()) {
            return refuse(OVER);
        }
        if (!wheel.hasPlace(start)) {
            return refuse(BAD);
        }
        replacement.settle(now, wheel.chosenBy(start), manner);
        return replacement.inTheEnd;
    }

    public int substitute(int unit, int start, int manner) {
        if (!now.has(unit) || !isManner(manner)) {
            return refuse(NONE);
        }
        if (!layWheel()) {
            return refuse(OVER);
        }
        if (!wheel.hasPlace(start)) {
            return refuse(BAD);
        }
        int chosen = wheel.chosenBy(start);
        if (!isIn(chosen, unit) || !now.isRefusing(unit)) {
            return refuse(STATE);
        }
        replacement.settle(now, chosen, manner);
        int found = replacement.instead[unit];
        return found >= 0 ? found : refuse(NOT);
    }

    public long finals(int unit, int manner, int part) {
        if (!now.has(unit) || !isManner(manner)) {
            return refuseLong(NONE);
        }
        if (!isPart(part)) {
            return refuseLong(BAD);
        }
        if (!layWheel()) {
            return refuseLong(OVER);
        }
        runs.trace(wheel);
        long starts = 0;
        for (int k = 0; k < runs.number; k++) {
            replacement.settle(now, runs.who[k], manner);
            if (isIn(replacement.inTheEnd, unit)) {
                starts += runs.starts[k];
            }
        }
        return lowest(starts, wheel.places, part);
    }

    public int drawn(int unit, int n, long z) {
        if (!now.has(unit)) {
            return refuse(NONE);
        }
        if (n < 1 || n > MOST_DRAWN) {
            return refuse(BAD);
        }
        if (!layWheel() || wheel.places < 1) {
            return refuse(OVER);
        }
        int often = 0;
        long seed = z;
        for (int i = 0; i < n; i++) {
            seed = seed * DRAW_TIMES + DRAW_PLUS;
            if (wheel.chooses(unit, (seed >>> DRAW_DROPPED) % wheel.places)) {
                often++;
            }
        }
        return often;
    }

    // ---- letters, reasons, lists, the image

    public int feed(int letter) {
        return answered(tape.take(letter));
    }

    public int tells() {
        int fault = tape.fault();
        int told = fault >= 0 ? refuse(FAULTS - fault) : doClauses();
        tape.length = 0;
        return told;
    }

    public int reason(int what) {
        switch (what) {
            case 0: return latest.answer;
            case 1: return latest.behind;
            case 2: return latest.nearest;
            case 3: return latest.last;
            default: return 0;
        }
    }

    public int list(int list, int n) {
        Row row = rowOf(list);
        return row == null ? refuse(NONE) : answered(row.become(n));
    }

    public int put(int list, int i, long v) {
        Row row = rowOf(list);
        int refusal = refusalAt(row, i);
        if (row == null || refusal < 0) {
            return refuse(refusal);
        }
        row.longs[i] = v;
        return 1;
    }

    public long look(int list, int i) {
        Row row = rowOf(list);
        int refusal = refusalAt(row, i);
        return row == null || refusal < 0 ? refuseLong(refusal) : row.longs[i];
    }

    public int judge(int list, int i) {
        Row row = rowOf(list);
        if (row == null || i < 0) {
            return refuse(NONE);
        }
        if (row.length < 0) {
            return refuse(NOTHING);
        }
        long places = now.places(FIRST);
        if (places < 1) {
            return refuse(OVER);
        }
        for (int unit = 0; unit < now.units; unit++) {
            if (i >= row.length - unit) {
                return 100 + unit;
            }
            if (row.longs[i + unit] != now.partsOf(unit, FIRST, places)) {
                return unit;
            }
        }
        return NOT;
    }

    public int image() {
        picture.copyOf(now);
        pictured = true;
        return picture.units;
    }

    public int undo() {
        if (!pictured) {
            return refuse(STATE);
        }
        now.copyOf(picture);
        return now.units;
    }

    public int count(int what) {
        switch (what) {
            case 0: return now.units;
            case 1: return now.orderNumber;
            case 2: return tape.length;
            case 3: return now.refusing;
            default: return refuse(NONE);
        }
    }

    // ---- answers and refusals

    private int answered(int answer) {
        return answer < 0 ? refuse(answer) : answer;
    }

    private int refuse(int answer) {
        if (answer == OVER) {
            latest.note(answer, 1, HOST, HOST);
        } else {
            latest.note(answer, 0, 0, 0);
        }
        return answer;
    }

    private long refuseLong(int refusal) {
        return LONGS - refuse(refusal);
    }

    private long partOf(Ratio ratio, int part) {
        if (ratio.over) {
            return refuseLong(OVER);
        }
        return part == 0 ? ratio.above : ratio.below;
    }

    private long lowest(long above, long below, int part) {
        piece.begin(above, below);
        return part == 0 ? piece.above : piece.below;
    }

    private Row rowOf(int list) {
        return list >= 0 && list < rows.length ? rows[list] : null;
    }

    private static int refusalAt(Row row, int i) {
        if (row == null) {
            return NONE;
        }
        if (row.length < 0) {
            return NOTHING;
        }
        return i < 0 || i >= row.length ? PLACE : 0;
    }

    private static boolean isRow(int row) {
        return row >= 0 && row < ROWS;
    }

    private static boolean isPart(int part) {
        return part == 0 || part == 1;
    }

    private static boolean isManner(int manner) {
        return manner == 0 || manner == 1;
    }

    private static boolean isIn(int bits, int unit) {
        return (bits >> unit & 1) != 0;
    }

    private static long gcd(long one, long two) {
        long greater = one;
        long lesser = two;
        for (int i = 0; i < GCD_STEPS && lesser != 0; i++) {
            long rest = greater % lesser;
            greater = lesser;
            lesser = rest;
        }
        return greater < 0 ? -greater : greater;
    }

    // ---- what the calls share

    private boolean layWheel() {
        long places = now.places(FIRST);
        if (places < 1) {
            return false;
        }
        wheel.lay(now, FIRST, places, now.everyone());
        return true;
    }

    private boolean layBothTimes() {
        long places = now.places(NEXT);
        if (places < 1) {
            return false;
        }
        wheel.lay(now, FIRST, places, now.everyone());
        second.lay(now, NEXT, places, now.everyone());
        return true;
    }

    private boolean isFair(int stratum) {
        long parts = 0;
        int members = 0;
        for (int unit = 0; unit < now.units; unit++) {
            if (now.stratumOf[unit] == stratum) {
                parts += now.partsOf(unit, FIRST, wheel.places);
                members |= 1 << unit;
            }
        }
        for (int k = 0; k < runs.number; k++) {
            // Cut or rounded up: less than one whole turn away from the parts, on either side.
            long off = Integer.bitCount(runs.who[k] & members) * wheel.places - parts;
            if (off <= -wheel.places || off >= wheel.places) {
                return false;
            }
        }
        return true;
    }

    private void addEstimate(Ratio sum, int chosen) {
        for (int unit = 0; unit < now.units; unit++) {
            if (isIn(chosen, unit)) {
                piece.begin((long) now.markOf[unit] * now.below(unit, FIRST), now.above(unit, FIRST));
                sum.add(piece.above, piece.below);
            }
        }
    }

    private long overAllRuns(int part, boolean squared) {
        if (!isPart(part)) {
            return refuseLong(BAD);
        }
        if (!layWheel()) {
            return refuseLong(OVER);
        }
        runs.trace(wheel);
        total.begin(0, 1);
        for (int k = 0; k < runs.number; k++) {
            term.begin(0, 1);
            addEstimate(term, runs.who[k]);
            if (squared) {
                term.add(-now.marksTogether(), 1);
                term.times(term.above, term.below);
            }
            piece.begin(runs.starts[k], wheel.places);
            term.times(piece.above, piece.below);
            if (term.over) {
                return refuseLong(OVER);
            }
            total.add(term.above, term.below);
        }
        return partOf(total, part);
    }

    private long pairsOfBoth(int one, int two, long places) {
        runs.trace(wheel);
        long pairs = 0;
        for (int k = 0; k < runs.number; k++) {
            second.lay(now, SECOND, places, runs.who[k]);
            pairs += runs.starts[k] * second.together(one, two);
        }
        return pairs;
    }

    private long keptBy(int unit, long shift) {
        long places = wheel.places;
        if (places < 1) {
            return 0;
        }
        long from = (second.from[unit] + shift) % places;
        return meeting(wheel.from[unit], wheel.length[unit], from, second.length[unit], places);
    }

    private long allKeptBy(long shift) {
        long sum = 0;
        for (int unit = 0; unit < now.units; unit++) {
            sum += keptBy(unit, shift);
        }
        return sum;
    }

    /**
     * The shift whose overlap, times the sign, is the greatest, and the least such shift.
     * Between shifts at which ends of a unit's two arcs meet, the overlap grows evenly;
     * so it is enough to look at those, and at 0.
     */
    private long extremeShift(int sign) {
        long places = wheel.places;
        long found = 0;
        long most = sign * allKeptBy(0);
        for (int i = 0; i < 4 * now.units && places > 0; i++) {
            int unit = i / 4;
            long here = wheel.from[unit] + (i % 2 == 0 ? 0 : wheel.length[unit]);
            long there = second.from[unit] + (i % 4 < 2 ? 0 : second.length[unit]);
            long shift = Math.floorMod(here - there, places);
            long value = sign * allKeptBy(shift);
            if (value > most || value == most && shift < found) {
                most = value;
                found = shift;
            }
        }
        return found;
    }

    /** How many places two arcs of a wheel have in common. */
    private static long meeting(long one, long oneLength, long two, long twoLength, long places) {
        long sum = 0;
        for (int turn = -1; turn <= 1; turn++) {
            long from = two + turn * places;
            long shared = Math.min(one + oneLength, from + twoLength) - Math.max(one, from);
            sum += Math.max(0L, shared);
        }
        return sum;
    }

    private int doClauses() {
        before.copyOf(now);
        int done = 0;
        int from = 0;
        for (; done < MOST_BYTES && from < tape.length; done++) {
            tape.readClause(from);
            int answer = doClause();
            if (answer < 0) {
                now.copyOf(before);
                latest.note(CLAUSES - from, 1, answer, answer);
                return CLAUSES - from;
            }
            from = tape.reached + 1;
        }
        if (now.places(FIRST) < 1) {
            now.copyOf(before);
            latest.note(OVER, 2, OVER, HOST);
            return OVER;
        }
        return done;
    }

    private int doClause() {
        int[] numbers = tape.numbers;
        switch (tape.kind) {
            case 'u': return now.admit(numbers[0], numbers[1], numbers[2], numbers[3]);
            case 's': return now.changeOdds(numbers[0], SECOND, numbers[1], numbers[2]);
            case 'n': return now.changeOdds(numbers[0], NEXT, numbers[1], numbers[2]);
            case 'o': return now.changeOrder(numbers[0]);
            case 'r': return now.changeRefusing(numbers[0], now.isRefusing(numbers[0]) ? 0 : 1);
            default: return now.exchange(numbers[0], numbers[1]);
        }
    }

    /** All units with what is theirs, the order and the hand; what an image keeps. */
    private static final class Roster {
        int units = 0;
        int refusing = 0;
        int orderNumber = 0;
        final int[] stratumOf = new int[MOST_UNITS];
        final int[] markOf = new int[MOST_UNITS];
        private final int[] hand = new int[MOST_UNITS];
        /** The units as they stand in order: every change that may move them arranges it anew. */
        private final int[] inOrder = new int[MOST_UNITS];
        private final int[] aboves = new int[ROWS * MOST_UNITS];
        private final int[] belows = new int[ROWS * MOST_UNITS];

        boolean has(int unit) {
            return unit >= 0 && unit < units;
        }

        int everyone() {
            return (1 << units) - 1;
        }

        boolean isRefusing(int unit) {
            return has(unit) && isIn(refusing, unit);
        }

        int above(int unit, int row) {
            boolean stands = unit >= 0 && unit < units && row >= 0 && row < ROWS;
            return stands ? aboves[row * MOST_UNITS + unit] : 0;
        }

        int below(int unit, int row) {
            boolean stands = unit >= 0 && unit < units && row >= 0 && row < ROWS;
            return stands ? belows[row * MOST_UNITS + unit] : 1;
        }

        int unitAt(int place) {
            return place >= 0 && place < units ? inOrder[place] : NONE;
        }

        int stratumAt(int place) {
            int unit = unitAt(place);
            return has(unit) ? stratumOf[unit] : NONE;
        }

        long marksTogether() {
            long sum = 0;
            for (int unit = 0; unit < units; unit++) {
                sum += markOf[unit];
            }
            return sum;
        }

        int placeOf(int unit) {
            for (int place = 0; place < units; place++) {
                if (inOrder[place] == unit) {
                    return place;
                }
            }
            return NONE;
        }

        int admit(int above, int below, int stratum, int mark) {
            if (!oddsFit(FIRST, above, below) || !stratumFits(stratum) || !markFits(mark)) {
                return BAD;
            }
            if (units >= MOST_UNITS) {
                return FULL;
            }
            int unit = units;
            units++;
            putOdds(unit, FIRST, above, below);
            putOdds(unit, SECOND, 1, 1);
            putOdds(unit, NEXT, 1, 1);
            stratumOf[unit] = stratum;
            markOf[unit] = mark;
            hand[unit] = unit;
            arrange();
            return unit;
        }

        int changeOdds(int unit, int row, int above, int below) {
            if (!has(unit) || !isRow(row)) {
                return NONE;
            }
            if (!oddsFit(row, above, below)) {
                return BAD;
            }
            int old = 100 * above(unit, row) + below(unit, row);
            putOdds(unit, row, above, below);
            arrange();
            return old;
        }

        int changeStratum(int unit, int stratum) {
            if (!has(unit)) {
                return NONE;
            }
            if (!stratumFits(stratum)) {
                return BAD;
            }
            int old = stratumOf[unit];
            stratumOf[unit] = stratum;
            arrange();
            return old;
        }

        int changeRefusing(int unit, int v) {
            if (!has(unit)) {
                return NONE;
            }
            if (v < 0 || v > 1) {
                return BAD;
            }
            int old = isRefusing(unit) ? 1 : 0;
            refusing = refusing & ~(1 << unit) | v << unit;
            return old;
        }

        int changeMark(int unit, int mark) {
            if (!has(unit)) {
                return NONE;
            }
            if (!markFits(mark)) {
                return BAD;
            }
            markOf[unit] = mark;
            arrange();
            return 1;
        }

        int changeOrder(int number) {
            if (number < 0 || number > BY_HAND) {
                return BAD;
            }
            int old = orderNumber;
            orderNumber = number;
            arrange();
            return old;
        }

        int exchange(int p, int q) {
            if (!has(p) || !has(q)) {
                return NONE;
            }
            if (p == q) {
                return NOT;
            }
            int moved = hand[p];
            hand[p] = hand[q];
            hand[q] = moved;
            arrange();
            return hand[p];
        }

        void copyOf(Roster from) {
            units = from.units;
            refusing = from.refusing;
            orderNumber = from.orderNumber;
            System.arraycopy(from.stratumOf, 0, stratumOf, 0, MOST_UNITS);
            System.arraycopy(from.markOf, 0, markOf, 0, MOST_UNITS);
            System.arraycopy(from.hand, 0, hand, 0, MOST_UNITS);
            System.arraycopy(from.inOrder, 0, inOrder, 0, MOST_UNITS);
            System.arraycopy(from.aboves, 0, aboves, 0, ROWS * MOST_UNITS);
            System.arraycopy(from.belows, 0, belows, 0, ROWS * MOST_UNITS);
        }

        /** COMMON of a row; 0: the row is OVER. */
        long places(int row) {
            long places = 1;
            for (int unit = 0; unit < units; unit++) {
                places = commonMultiple(places, below(unit, row == SECOND ? SECOND : FIRST));
                places = row == NEXT ? commonMultiple(places, below(unit, NEXT)) : places;
                // What is too large stays so, and must not grow out of the longs.
                if (places > GREATEST_INT) {
                    return 0;
                }
            }
            boolean tooMany = partsOfAll(row, places) > GREATEST_INT
                || row == NEXT && partsOfAll(FIRST, places) > GREATEST_INT;
            return tooMany ? 0 : places;
        }

        long partsOf(int unit, int row, long places) {
            int below = below(unit, row);
            return below < 1 ? 0 : above(unit, row) * (places / below);
        }

        long partsOfAll(int row, long places) {
            long sum = 0;
            for (int unit = 0; unit < units; unit++) {
                sum += partsOf(unit, row, places);
            }
            return sum;
        }

        private void putOdds(int unit, int row, int above, int below) {
            if (has(unit) && isRow(row)) {
                aboves[row * MOST_UNITS + unit] = above;
                belows[row * MOST_UNITS + unit] = below;
            }
        }

        private void arrange() {
            for (int i = 0; i < units; i++) {
                int unit = orderNumber == BY_HAND ? hand[i] : i;
                int place = i;
                for (; place > 0 && standsAhead(unit, inOrder[place - 1]); place--) {
                    inOrder[place] = inOrder[place - 1];
                }
                inOrder[place] = unit;
            }
        }

        private boolean standsAhead(int one, int two) {
            if (!has(one) || !has(two)) {
                return false;
            }
            int strata = stratumOf[one] - stratumOf[two];
            int marks = markOf[one] - markOf[two];
            switch (orderNumber) {
                case BY_FIRST:
                    return above(one, FIRST) * below(two, FIRST) > above(two, FIRST) * below(one, FIRST);
                case BY_STRATA:
                    return strata < 0;
                case BY_MARKS:
                    return marks < 0;
                case BY_STRATA_AND_MARKS:
                    return strata < 0 || strata == 0 && (stratumOf[one] % 2 == 0 ? marks < 0 : marks > 0);
                default:
                    return false;
            }
        }

        private static long commonMultiple(long one, long two) {
            long shared = gcd(one, two);
            return shared < 1 ? 0 : one / shared * two;
        }

        private static boolean oddsFit(int row, int above, int below) {
            return below >= 1 && below <= MOST_BELOW && above >= (row == FIRST ? 1 : 0) && above <= below;
        }

        private static boolean stratumFits(int stratum) {
            return stratum >= 0 && stratum <= MOST_STRATUM;
        }

        private static boolean markFits(int mark) {
            return mark >= -MOST_MARK && mark <= MOST_MARK;
        }
    }

    /** The arcs of some units on so many places, round and round. */
    private static final class Wheel {
        long places = 1;
        final long[] from = new long[MOST_UNITS];
        /** How long the arcs are; 0 for units that aren't on the wheel. */
        final long[] length = new long[MOST_UNITS];

        void lay(Roster roster, int row, long common, int who) {
            places = common;
            for (int unit = 0; unit < MOST_UNITS; unit++) {
                from[unit] = 0;
                length[unit] = 0;
            }
            long next = 0;
            for (int place = 0; place < roster.units && common > 0; place++) {
                int unit = roster.unitAt(place);
                if (roster.has(unit) && isIn(who, unit)) {
                    from[unit] = next;
                    length[unit] = roster.partsOf(unit, row, common);
                    next = (next + length[unit]) % common;
                }
            }
        }

        boolean hasPlace(int place) {
            return place >= 0 && place < places;
        }

        boolean chooses(int unit, long start) {
            if (unit < 0 || unit >= MOST_UNITS || places < 1) {
                return false;
            }
            return Math.floorMod(start - from[unit], places) < length[unit];
        }

        int chosenBy(long start) {
            int bits = 0;
            for (int unit = 0; unit < MOST_UNITS; unit++) {
                bits |= chooses(unit, start) ? 1 << unit : 0;
            }
            return bits;
        }

        long together(int one, int two) {
            return meeting(from[one], length[one], from[two], length[two], places);
        }

        /**
         * The next place behind one at which an arc has ended; the size, if there is none.
         * There others are chosen: arcs begin at place 0 or where the one ahead ends, and where a
         * full arc ends, but at place 0, one ends that isn't full.
         */
        long nextEnd(long place) {
            long next = places;
            for (int unit = 0; unit < MOST_UNITS && places > 0; unit++) {
                long end = (from[unit] + length[unit]) % places;
                next = end > place ? Math.min(next, end) : next;
            }
            return next;
        }
    }

    /** The runs of starts of a wheel that choose the same units. */
    private static final class Runs {
        int number = 0;
        final long[] firstStart = new long[MOST_RUNS];
        final long[] starts = new long[MOST_RUNS];
        final int[] who = new int[MOST_RUNS];

        void trace(Wheel wheel) {
            number = 0;
            long place = 0;
            // A wheel has no more ends than units, and from place 0 on a run between two of them.
            for (; number < MOST_RUNS && place < wheel.places; number++) {
                long end = wheel.nextEnd(place);
                firstStart[number] = place;
                starts[number] = end - place;
                who[number] = wheel.chosenBy(place);
                place = end;
            }
        }
    }

    /** A fraction in lowest terms that remembers whether it ever left the longs. */
    private static final class Ratio {
        long above = 0;
        long below = 1;
        boolean over = false;

        void begin(long a, long b) {
            over = false;
            reduce(a, b);
        }

        void add(long c, long d) {
            long left = above * d;
            long right = c * below;
            long sum = left + right;
            boolean sumFits = ((left ^ sum) & (right ^ sum)) >= 0;
            if (!productFits(above, d) || !productFits(c, below) || !productFits(below, d) || !sumFits) {
                over = true;
                return;
            }
            reduce(sum, below * d);
        }

        void times(long c, long d) {
            if (!productFits(above, c) || !productFits(below, d)) {
                over = true;
                return;
            }
            reduce(above * c, below * d);
        }

        private void reduce(long a, long b) {
            long shared = gcd(a, b);
            above = shared > 1 ? a / shared : a;
            below = shared > 1 ? b / shared : b;
        }

        private static boolean productFits(long one, long two) {
            if (one == 0 || one == -1) {
                return one == 0 || two != LEAST_LONG;
            }
            return one * two / one == two;
        }
    }

    /** Who comes for those of the chosen that are refusing. */
    private static final class Replacement {
        int inTheEnd = 0;
        /** Of each refusing unit that is chosen the one that comes, or NONE; of others of no use. */
        final int[] instead = new int[MOST_UNITS];

        void settle(Roster roster, int chosen, int manner) {
            int came = 0;
            for (int place = 0; place < roster.units; place++) {
                int unit = roster.unitAt(place);
                if (roster.isRefusing(unit) && isIn(chosen, unit)) {
                    int found = firstBehind(roster, place, chosen | roster.refusing | came, manner);
                    instead[unit] = found;
                    came |= found >= 0 ? 1 << found : 0;
                }
            }
            inTheEnd = chosen & ~roster.refusing | came;
        }

        private static int firstBehind(Roster roster, int place, int barred, int manner) {
            int stratum = roster.stratumAt(place);
            for (int step = 1; step < roster.units; step++) {
                int there = (place + step) % roster.units;
                int found = roster.unitAt(there);
                if (!isIn(barred, found) && (manner == 0 || roster.stratumAt(there) == stratum)) {
                    return found;
                }
            }
            return NONE;
        }
    }

    /** The bytes fed so far, and the clause read last from them. */
    private static final class Tape {
        private static final int MOST_NUMBERS = 4;
        int length = 0;
        int kind = 0;
        /** Where reading stopped: behind a clause, or at the byte with which none goes on. */
        int reached = 0;
        final int[] numbers = new int[MOST_NUMBERS];
        private int filled = 0;
        private final int[] bytes = new int[MOST_BYTES];

        int take(int letter) {
            if (letter < 1 || letter > MOST_LETTER) {
                return BAD;
            }
            if (length >= MOST_BYTES) {
                return FULL;
            }
            bytes[length] = letter;
            length++;
            return length;
        }

        /** The place of the fault; -1: the tape holds a text. */
        int fault() {
            int from = 0;
            for (int i = 0; i <= MOST_BYTES; i++) {
                if (!readClause(from)) {
                    return reached;
                }
                if (reached >= length) {
                    return -1;
                }
                if (byteAt(reached) != ';') {
                    return reached;
                }
                from = reached + 1;
            }
            return reached;
        }

        boolean readClause(int from) {
            kind = byteAt(from);
            reached = from;
            filled = 0;
            String shape = shapeOf(kind);
            if (shape.isEmpty()) {
                return false;
            }
            reached++;
            for (int i = 0; i < shape.length(); i++) {
                if (!readSign(shape.charAt(i))) {
                    return false;
                }
            }
            return true;
        }

        /** What follows a clause's letter: D a digit, N one or two, M the same, perhaps below 0. */
        private static String shapeOf(int kind) {
            switch (kind) {
                case 'u': return "N/N,D,M";
                case 's': case 'n': return "N,N/N";
                case 'o': return "D";
                case 'r': return "N";
                case 'x': return "N,N";
                default: return "";
            }
        }

        private boolean readSign(char sign) {
            switch (sign) {
                case 'D': return readNumber(1, 1);
                case 'N': return readNumber(2, 1);
                case 'M': return readNumber(2, readsByte('-') ? -1 : 1);
                default: return readsByte(sign);
            }
        }

        private boolean readsByte(int due) {
            boolean same = byteAt(reached) == due;
            reached += same ? 1 : 0;
            return same;
        }

        private boolean readNumber(int mostDigits, int factor) {
            int digits = 0;
            int value = 0;
            for (; digits < mostDigits && isDigit(byteAt(reached)); digits++) {
                value = 10 * value + byteAt(reached) - '0';
                reached++;
            }
            if (digits > 0 && filled < MOST_NUMBERS) {
                numbers[filled] = factor * value;
                filled++;
            }
            return digits > 0;
        }

        /** 0 beyond the end: no byte on the tape is 0. */
        private int byteAt(int place) {
            return place >= 0 && place < length ? bytes[place] : 0;
        }

        private static boolean isDigit(int letter) {
            return letter >= '0' && letter <= '9';
        }
    }

    /** What the latest refused call answered, and what stands behind it. */
    private static final class Reason {
        int answer = 0;
        int behind = 0;
        int nearest = 0;
        int last = 0;

        void note(int refusal, int howMany, int next, int end) {
            answer = refusal;
            behind = howMany;
            nearest = next;
            last = end;
        }
    }

    /** A list: so many longs, or nothing (length -1). */
    private static final class Row {
        int length = -1;
        final long[] longs = new long[MOST_LONGS];

        int become(int n) {
            if (n > MOST_LONGS) {
                return BAD;
            }
            if (n < 0) {
                return BELOW;
            }
            length = n;
            for (int i = 0; i < MOST_LONGS; i++) {
                longs[i] = 0;
            }
            return 1;
        }
    }
}
