/**
 * Large wheels, held against small ones: units that are chosen for sure (59 by 59 and the like)
 * only stretch a wheel, so all else must answer as the small wheel does.
 */
public final class StretchTest {
    private static final int PAIRS = 3000;
    private static final int[] BELOWS = {1, 2, 3, 4, 6, 12}, STRETCH = {59, 53, 47, 43, 7};
    private static int wrong = 0, asked = 0, stretched = 0;
    private static long most = 0, seed = 99;

    private final QuotaCarousel small = new QuotaCarousel(), large = new QuotaCarousel();
    private int units, sure;
    private int[] times = new int[3];

    public static void main(String[] args) {
        for (int i = 0; i < PAIRS && wrong < 10; i++) {
            new StretchTest().play();
        }
        if (stretched < PAIRS / 2 || most < 1L << 27) {
            wrong++;
            System.out.println("only " + stretched + " wheels of at most " + most + " places: too tame");
        }
        System.out.println(asked + " answers looked at on " + stretched + " wheels of up to " + most
            + " places, " + wrong + " wrong");
        System.exit(wrong == 0 ? 0 : 1);
    }

    private static int draw(int n) {
        seed = seed * 6364136223846793005L + 1442695040888963407L;
        return (int) ((seed >>> 33) % n);
    }

    private static void due(String call, long got, long want) {
        asked++;
        if (got != want) {
            wrong++;
            System.out.println(call + " answered " + got + ", due is " + want);
        }
    }

    private void play() {
        units = draw(8);
        for (int unit = 0; unit < units; unit++) {
            int stratum = draw(4), mark = draw(199) - 99, refusing = draw(2);
            for (int row = 0; row < 3; row++) {
                int below = BELOWS[draw(BELOWS.length)], above = draw(below) + 1;
                for (QuotaCarousel x : new QuotaCarousel[] {small, large}) {
                    if (row == 0) {
                        x.unit(above, below, stratum, mark);
                        x.set(unit, 1, refusing);
                    }
                    x.odds(unit, row, above, below);
                }
            }
        }
        sure = 1 + draw(5);
        for (int i = 0; i < sure; i++) {
            int p = STRETCH[i];
            large.unit(p, p, draw(4), 0);
            large.odds(units + i, 1, p, p);
            large.odds(units + i, 2, p, p);
        }
        int order = draw(6);
        small.order(order);
        large.order(order);
        for (int row = 0; row < 3; row++) {
            if (large.common(row) < 0) {
                return;
            }
            times[row] = large.common(row) / small.common(row);
            most = Math.max(most, large.common(row));
        }
        stretched++;
        compareWheels();
        compareRuns();
        compareFractions();
        compareTimes();
    }

    private int start(int row, int place) {
        return place * times[row] + draw(times[row]);
    }

    private int low(int bits) {
        return bits < 0 ? bits : bits & (1 << units) - 1;
    }

    private void compareWheels() {
        due("size(0)", large.size(0), small.size(0) + sure);
        due("size(1)", large.size(1), small.size(1) + sure);
        for (int i = 0; i < 5; i++) {
            int place = draw(small.common(0)), start = start(0, place);
            int again = draw(small.common(1)), manner = draw(2);
            due("chosen", large.chosen(start), small.chosen(place) | ((1 << sure) - 1) << units);
            due("estimate", large.estimate(start, 0), small.estimate(place, 0));
            due("estimate", large.estimate(start, 1), small.estimate(place, 1));
            due("twice", low(large.twice(start, start(1, again))), small.twice(place, again));
            due("replaced", low(large.replaced(start, manner)), small.replaced(place, manner));
            if (units > 0) {
                int unit = draw(units);
                due("substitute", large.substitute(unit, start, manner), small.substitute(unit, place, manner));
            }
        }
        for (int stratum = 0; stratum < 4; stratum++) {
            due("fair", large.fair(stratum), small.fair(stratum));
        }
    }

    private void compareRuns() {
        due("runs", large.run(-1, 0), small.run(-1, 0));
        for (int k = 0; k < small.run(-1, 0); k++) {
            due("first start", large.run(k, 0), (long) small.run(k, 0) * times[0]);
            due("starts", large.run(k, 1), (long) small.run(k, 1) * times[0]);
            due("who", low(large.run(k, 2)), small.run(k, 2));
        }
    }

    private void compareFractions() {
        for (int part = 0; part < 2; part++) {
            due("mean", large.mean(part), small.mean(part));
            due("spread", large.spread(part), small.spread(part));
            for (int one = 0; one < units; one++) {
                int other = draw(units), manner = draw(2);
                due("joint", large.joint(one, other, part), small.joint(one, other, part));
                due("both", large.both(one, other, part), small.both(one, other, part));
                due("finals", large.finals(one, manner, part), small.finals(one, manner, part));
            }
        }
    }

    private void compareTimes() {
        for (int what = 0; what < 2; what++) {
            due("shift", large.shift(what), (long) small.shift(what) * times[2]);
        }
        for (int i = 0; i < 5; i++) {
            int shift = draw(small.common(2));
            long below = large.overlap(shift * times[2], 1);
            due("overlap", large.overlap(shift * times[2], 0) - sure * below, small.overlap(shift, 0));
            due("overlap", below, small.overlap(shift, 1));
            if (units > 0) {
                int unit = draw(units);
                due("kept", large.kept(unit, shift * times[2], 0), small.kept(unit, shift, 0));
                due("kept", large.kept(unit, shift * times[2], 1), small.kept(unit, shift, 1));
            }
        }
    }
}
