import java.math.BigInteger;
import java.util.ArrayList;
import java.util.List;
import java.util.TreeSet;

/**
 * Wheels of up to 2147483647 places that are no stretched small ones: a model cuts them wherever an
 * arc ends, looks at one place of each piece and reckons with BigInteger.
 */
public final class LargeWheelsTest {
    private static final int CAROUSELS = 5000;
    private static final int[][] BELOWS = {{59, 53, 47, 43, 41}, {60, 48, 36, 54}, {49, 27, 32, 25, 11},
        {59, 58, 57, 56, 55}, {31, 37, 29}, {1, 2, 3, 4, 6, 8, 12, 24, 48}, {59}, {59, 60, 7, 53, 47}, {43, 50, 47, 9, 41, 7}};
    private static final int[] MARKS = {99, 99, 20, 1};
    private static final long LONGS = 4000000000000000000L;
    private static int wrong = 0, asked = 0, large = 0, meansOver = 0, spreadsOver = 0, spreads = 0;
    private static long seed = 2026;

    private final QuotaCarousel x = new QuotaCarousel();
    private final int units = draw(2) == 0 ? draw(13) : draw(7);
    private final long[][] above = new long[3][units], below = new long[3][units];
    private final int[] stratum = new int[units], mark = new int[units];
    private final List<long[]> runs = new ArrayList<>();
    private long common;

    /** Arcs of all units by some odds: where each begins and how long it is. */
    private static final class Arcs {
        final long[] from, length;
        final long common;

        Arcs(int units, long common) {
            from = new long[units];
            length = new long[units];
            this.common = common;
        }

        boolean has(int unit, long place) {
            boolean ahead = place >= from[unit] && place < from[unit] + length[unit];
            return ahead || place + common < from[unit] + length[unit];
        }

        void cuts(int unit, long shift, TreeSet<Long> cuts) {
            cuts.add(Math.floorMod(from[unit] + shift, common));
            cuts.add(Math.floorMod(from[unit] + length[unit] + shift, common));
        }
    }

    public static void main(String[] args) {
        for (int i = 0; i < CAROUSELS && wrong < 10; i++) {
            new LargeWheelsTest().play();
        }
        if (large < CAROUSELS / 20 || meansOver < 100 || spreadsOver < 100 || spreads < 100) {
            wrong++;
            System.out.println("too tame: " + large + " large wheels, " + meansOver + " means and " + spreadsOver
                + " spreads OVER, " + spreads + " spreads that aren't on wheels of over 1000000 places");
        }
        System.out.println(asked + " answers looked at, on " + large + " wheels of over 100000000 places, " + wrong
            + " wrong");
        System.exit(wrong == 0 ? 0 : 1);
    }

    private static int draw(int n) {
        seed = seed * 6364136223846793005L + 1442695040888963407L;
        return (int) ((seed >>> 33) % n);
    }

    private static void due(String call, long got, long want) {
        asked++;
        if (got != want) {
            wrong++;
            System.out.println(call + " answered " + got + ", due is " + want);
        }
    }

    private interface Asks {
        long part(int part);
    }

    private static void fraction(String call, Asks asks, long above, long below) {
        ModelTest.Fraction due = ModelTest.Fraction.of(above, below);
        due(call + " above", asks.part(0), due.part(0));
        due(call + " below", asks.part(1), due.part(1));
    }

    private void play() {
        int[][] pools = {BELOWS[draw(BELOWS.length)], BELOWS[draw(BELOWS.length)], BELOWS[draw(BELOWS.length)]};
        int marks = MARKS[draw(MARKS.length)];
        for (int unit = 0; unit < units; unit++) {
            for (int row = 0; row < 3; row++) {
                int by = pools[row][(draw(3) == 0 ? draw(12) : unit) % pools[row].length];
                below[row][unit] = by;
                above[row][unit] = draw(6) == 0 ? by : row == 0 ? 1 + draw(by) : draw(by + 1);
            }
            stratum[unit] = draw(4);
            mark[unit] = draw(2 * marks + 1) - marks;
            x.unit((int) above[0][unit], (int) below[0][unit], stratum[unit], mark[unit]);
            x.odds(unit, 1, (int) above[1][unit], (int) below[1][unit]);
            x.odds(unit, 2, (int) above[2][unit], (int) below[2][unit]);
            x.set(unit, 1, draw(3) == 0 ? 1 : 0);
        }
        for (int i = 0; i < units; i++) {
            x.swap(draw(units), draw(units));
        }
        x.order(draw(6));
        for (int row = 0; row < 3; row++) {
            due("common(" + row + ")", x.common(row), commonOf(row));
        }
        common = x.common(0);
        if (common > 0) {
            large += common > 100000000 ? 1 : 0;
            lookAtRuns();
            lookAtEstimates();
            lookAtStrata();
            lookAtUnits();
        }
        if (common > 0 && x.common(1) > 0) {
            lookTwice();
        }
        if (x.common(2) > 0) {
            lookAtShifts();
        }
    }

    // ---- the model

    /** COMMON of a row, or OVER: the first number that all belows go into, and then ALL. */
    private long commonOf(int row) {
        BigInteger least = BigInteger.ONE;
        for (int r = 0; r < 3; r++) {
            for (int unit = 0; unit < units && (r == row || r == 0 && row == 2); unit++) {
                BigInteger by = BigInteger.valueOf(below[r][unit]);
                least = least.multiply(by).divide(least.gcd(by));
            }
        }
        BigInteger most = least;
        for (int r = 0; r < 3; r++) {
            BigInteger all = BigInteger.ZERO;
            for (int unit = 0; unit < units && (r == row || r == 0 && row == 2); unit++) {
                all = all.add(least.multiply(BigInteger.valueOf(above[r][unit]))
                    .divide(BigInteger.valueOf(below[r][unit])));
            }
            most = most.max(all);
        }
        return most.bitLength() > 31 ? QuotaCarousel.OVER : least.longValueExact();
    }

    private Arcs arcs(int row, long places, long who) {
        Arcs arcs = new Arcs(units, places);
        long next = 0;
        for (int place = 0; place < units; place++) {
            int unit = x.at(place);
            if ((who >> unit & 1) == 1) {
                arcs.from[unit] = next % places;
                arcs.length[unit] = above[row][unit] * places / below[row][unit];
                next += arcs.length[unit];
            }
        }
        return arcs;
    }

    private static boolean isIn(long bits, int unit) {
        return (bits >> unit & 1) == 1;
    }

    /** How many places the arcs of a unit have in common, the second moved by a shift. */
    private static long meeting(Arcs one, int unit, Arcs two, int other, long shift) {
        TreeSet<Long> cuts = new TreeSet<>();
        cuts.add(0L);
        one.cuts(unit, 0, cuts);
        two.cuts(other, shift, cuts);
        long sum = 0;
        for (long cut : cuts) {
            Long next = cuts.higher(cut);
            if (one.has(unit, cut) && two.has(other, Math.floorMod(cut - shift, two.common))) {
                sum += (next == null ? one.common : next) - cut;
            }
        }
        return sum;
    }

    private ModelTest.Fraction estimate(long who) {
        ModelTest.Fraction sum = ModelTest.Fraction.ZERO;
        for (int unit = 0; unit < units; unit++) {
            sum = isIn(who, unit)
                ? sum.plus(ModelTest.Fraction.of(mark[unit] * below[0][unit], above[0][unit])) : sum;
        }
        return sum;
    }

    private ModelTest.Fraction overAllRuns(boolean squared) {
        long marks = 0;
        for (int m : mark) {
            marks += m;
        }
        ModelTest.Fraction sum = ModelTest.Fraction.ZERO;
        for (long[] run : runs) {
            ModelTest.Fraction value = estimate(run[2]);
            if (squared) {
                value = value.plus(ModelTest.Fraction.of(-marks, 1));
                value = value.times(value);
            }
            sum = sum.plus(value.times(ModelTest.Fraction.of(run[1], common)));
        }
        return sum;
    }

    // ---- held against it

    private void lookAtRuns() {
        Arcs arcs = arcs(0, common, -1);
        TreeSet<Long> cuts = new TreeSet<>();
        cuts.add(0L);
        for (int unit = 0; unit < units; unit++) {
            arcs.cuts(unit, 0, cuts);
        }
        for (long cut : cuts) {
            Long next = cuts.higher(cut);
            long who = 0;
            for (int unit = 0; unit < units; unit++) {
                who |= arcs.has(unit, cut) ? 1L << unit : 0;
            }
            long starts = (next == null ? common : next) - cut;
            if (!runs.isEmpty() && runs.get(runs.size() - 1)[2] == who) {
                runs.get(runs.size() - 1)[1] += starts;
            } else {
                runs.add(new long[] {cut, starts, who});
            }
        }
        due("runs", x.run(-1, 0), runs.size());
        for (int k = 0; k < runs.size(); k++) {
            for (int what = 0; what < 3; what++) {
                due("run(" + k + ", " + what + ")", x.run(k, what), runs.get(k)[what]);
            }
            due("chosen by its first", x.chosen((int) runs.get(k)[0]), runs.get(k)[2]);
            due("chosen by its last", x.chosen((int) (runs.get(k)[0] + runs.get(k)[1] - 1)), runs.get(k)[2]);
        }
    }

    private void lookAtEstimates() {
        for (long[] run : runs) {
            int start = (int) (run[0] + run[1] / 2);
            ratio("estimate", part -> x.estimate(start, part), () -> estimate(run[2]));
        }
        meansOver += ratio("mean", x::mean, () -> overAllRuns(false)) ? 0 : 1;
        if (ratio("spread", x::spread, () -> overAllRuns(true))) {
            spreads += common > 1000000 ? 1 : 0;
        } else {
            spreadsOver++;
        }
    }

    private interface Reckons {
        ModelTest.Fraction all();
    }

    /** Whether it stayed in the longs. */
    private static boolean ratio(String call, Asks asks, Reckons reckons) {
        ModelTest.Fraction due = null;
        try {
            due = reckons.all();
        } catch (ModelTest.Refusal over) {
            due(call + " is OVER", over.answer, QuotaCarousel.OVER);
        }
        for (int part = 0; part < 2; part++) {
            due(call + " part " + part, asks.part(part), due == null ? LONGS - QuotaCarousel.OVER : due.part(part));
        }
        return due != null;
    }

    private void lookAtStrata() {
        for (int s = 0; s < 4; s++) {
            long parts = 0, members = 0;
            for (int unit = 0; unit < units; unit++) {
                parts += stratum[unit] == s ? above[0][unit] * common / below[0][unit] : 0;
                members |= stratum[unit] == s ? 1L << unit : 0;
            }
            long cut = parts / common, up = cut + (parts % common == 0 ? 0 : 1);
            int fair = 1;
            for (long[] run : runs) {
                int chosen = Long.bitCount(run[2] & members);
                fair = chosen == cut || chosen == up ? fair : 0;
            }
            due("fair(" + s + ")", x.fair(s), fair);
        }
    }

    private void lookAtUnits() {
        Arcs arcs = arcs(0, common, -1);
        for (int unit = 0; unit < units; unit++) {
            int one = unit, other = draw(units), manner = draw(2), n = 1 + draw(60);
            long together = 0, withAll = 0, in = 0;
            for (long[] run : runs) {
                together += isIn(run[2], one) && isIn(run[2], other) ? run[1] : 0;
                withAll += isIn(run[2], one) ? run[1] * Long.bitCount(run[2]) : 0;
                in += isIn(x.replaced((int) run[0], manner), one) ? run[1] : 0;
            }
            fraction("joint", part -> x.joint(one, other, part), together, common);
            fraction("joints", part -> x.joints(one, part), withAll, common);
            fraction("finals", part -> x.finals(one, manner, part), in, common);
            long z = seed;
            long drawn = z;
            int often = 0;
            for (int i = 0; i < n; i++) {
                drawn = drawn * 6364136223846793005L + 1442695040888963407L;
                often += arcs.has(one, (drawn >>> 33) % common) ? 1 : 0;
            }
            due("drawn", x.drawn(one, n, z), often);
        }
    }

    private void lookTwice() {
        long places = x.common(1);
        List<Arcs> again = new ArrayList<>();
        for (long[] run : runs) {
            Arcs arcs = arcs(1, places, run[2]);
            again.add(arcs);
            long place = (seed >>> 1) % places;
            long who = 0;
            for (int unit = 0; unit < units; unit++) {
                who |= arcs.has(unit, place) ? 1L << unit : 0;
            }
            due("twice", x.twice((int) (run[0] + run[1] - 1), (int) place), who);
        }
        for (int unit = 0; unit < units; unit++) {
            int one = unit, other = draw(3) == 0 ? one : draw(units);
            long pairs = 0;
            for (int k = 0; k < runs.size(); k++) {
                pairs += runs.get(k)[1] * meeting(again.get(k), one, again.get(k), other, 0);
            }
            fraction("both", part -> x.both(one, other, part), pairs, common * places);
        }
    }

    private static long overlap(Arcs here, Arcs next, long shift) {
        long sum = 0;
        for (int unit = 0; unit < here.from.length; unit++) {
            sum += meeting(here, unit, next, unit, shift);
        }
        return sum;
    }

    private void lookAtShifts() {
        long places = x.common(2);
        Arcs here = arcs(0, places, -1), next = arcs(2, places, -1);
        TreeSet<Long> shifts = new TreeSet<>();
        shifts.add(0L);
        shifts.add(places - 1);
        for (int i = 0; i < 4 * units; i++) {
            long one = here.from[i / 4] + (i % 2 == 0 ? 0 : here.length[i / 4]);
            long two = next.from[i / 4] + (i % 4 < 2 ? 0 : next.length[i / 4]);
            for (int beside = -1; beside <= 1; beside++) {
                shifts.add(Math.floorMod(one - two + beside, places));
            }
            shifts.add((seed >>> 1) % places);
            draw(2);
        }
        long best = 0, worst = 0;
        for (long shift : shifts) {
            best = overlap(here, next, shift) > overlap(here, next, best) ? shift : best;
            worst = overlap(here, next, shift) < overlap(here, next, worst) ? shift : worst;
        }
        due("best", x.shift(0), best);
        due("worst", x.shift(1), worst);
        for (long s : new long[] {0, best, worst, (seed >>> 1) % places}) {
            int shift = (int) s;
            fraction("overlap", part -> x.overlap(shift, part), overlap(here, next, s), places);
            if (units > 0) {
                int unit = draw(units);
                fraction("kept", part -> x.kept(unit, shift, part), meeting(here, unit, next, unit, s), places);
            }
        }
    }
}
