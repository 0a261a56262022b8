import java.math.BigInteger;

/** Chosen twice, kept, replaced, drawn: a test for each boundary that a sentence of the document names. */
public final class BoundariesOfTwiceTest extends Boundaries {
    public static void main(String[] args) {
        twiceEdges();
        bothEdges();
        keptEdges();
        overlapEdges();
        shiftEdges();
        shiftsOfAll();
        replacedEdges();
        roundTheOrder();
        substituteEdges();
        finalsEdges();
        drawnEdges();
        end(22, 30);
    }

    private static void twiceEdges() {
        says(22, "no UNITS: one START, and one AGAIN");
        due("nobody", fresh().twice(0, 0), 0);
        no("start 1", Boundaries::fresh, x -> x.twice(1, 0), BAD);
        no("again 1", Boundaries::fresh, x -> x.twice(0, 1), BAD);
        says(22, "AGAIN 0 .. COMMON of SECOND of all UNITS less 1, whoever is CHOSEN");
        QuotaCarousel x = four();
        x.odds(0, 1, 1, 2);
        x.odds(2, 1, 1, 3);
        due("1 and 3 for sure", x.twice(3, 5), 10);
        due("nobody behind 0 and 2", x.twice(0, 5), 0);
        due("the last of both", x.twice(5, 5), 8);
        due("0 is on the first place", x.twice(0, 0), 1);
        due("and is on none, where it isn't CHOSEN", x.twice(5, 0), 12);
        says(22, "a START that CHOOSES nobody, and SECOND 0");
        x = oneByEach(2);
        x.odds(0, 1, 0, 3);
        due("0 by 3", x.twice(0, 0), 0);
        due("nobody", x.twice(1, 2), 0);
        says(22, "those CHOSEN make a WHEEL in ORDER, round and round");
        x = twelve(1, 1);
        for (int unit = 0; unit < 12; unit++) {
            x.odds(unit, 1, unit < 3 ? 2 : 0, unit < 3 ? 3 : 1);
        }
        due("0 on 0 1, 1 on 2 0", x.twice(0, 0), 3);
        due("2 on 1 2", x.twice(0, 1), 5);
        due("1 and 2", x.twice(0, 2), 6);
        x.order(5);
        x.swap(0, 2);
        due("2 on 0 1, 1 on 2 0", x.twice(0, 0), 6);
        due("0 on 1 2", x.twice(0, 1), 5);
        says(22, "OVER (ROW 0, ROW 1); BAD: start, again");
        for (int place : new int[] {-1, 10, MIN, MAX}) {
            no("start " + place, Boundaries::busy, y -> y.twice(place, 0), BAD);
            no("again " + place, Boundaries::busy, y -> y.twice(0, place), BAD);
            no("OVER ahead of start", Boundaries::overByFirst, y -> y.twice(place, 0), OVER);
            no("OVER ahead of again", Boundaries::overBySecond, y -> y.twice(0, place), OVER);
        }
        due("the last of both", busy().twice(5, 9), 12);
        no("ALL of SECOND", () -> allBeyond(1), y -> y.twice(0, 0), OVER);
        due("ALL of SECOND 2147483647", allAtTheEdge(1).twice(0, 0), 1);
        due("OVER of ROW 2 is none of it", overByNext().twice(0, 0) < 0 ? 0 : 1, 1);
    }

    private static void bothEdges() {
        says(23, "one twice, for sure, never");
        QuotaCarousel x = oneByEach(1, 1, 2);
        x.odds(1, 1, 0, 60);
        fraction("0 twice", x.both(0, 0, 0), x.both(0, 0, 1), 1, 1);
        fraction("1 never", x.both(1, 1, 0), x.both(1, 1, 1), 0, 1);
        fraction("0 and 1", x.both(0, 1, 0), x.both(1, 0, 1), 0, 1);
        fraction("0 and 2", x.both(0, 2, 0), x.both(2, 0, 1), 1, 2);
        says(23, "one AGAIN alone, and one START alone");
        fraction("1 by 2, and sure", oneByEach(2).both(0, 0, 0), oneByEach(2).both(0, 0, 1), 1, 2);
        x = twelve(1, 60);
        fraction("of thirteen RUNS", x.both(11, 11, 0), x.both(11, 11, 1), 1, 60);
        for (int unit = 0; unit < 12; unit++) {
            x.odds(unit, 0, 1, 1);
        }
        fraction("of one RUN", x.both(11, 0, 0), x.both(11, 0, 1), 1, 1);
        x.odds(11, 1, 1, 2);
        fraction("of one RUN, 1 by 2", x.both(11, 0, 0), x.both(11, 0, 1), 1, 2);
        says(23, "by COMMON of FIRST times COMMON of SECOND, both 2147438930");
        x = byRow(0, 26, 35, 23, 37, 47, 59);
        int[] belows = {26, 35, 23, 37, 47, 59};
        for (int unit = 0; unit < 6; unit++) {
            x.odds(unit, 1, 1, belows[unit]);
        }
        fraction("1 by 23, twice", x.both(2, 2, 0), x.both(2, 2, 1), 1, 529);
        fraction("2 and 3", x.both(2, 3, 0), x.both(3, 2, 1), 0, 1);
        says(23, "NONE: units; BAD: part; OVER (ROW 0, ROW 1)");
        for (int none : new int[] {-1, 10, 12, MIN, MAX}) {
            noLong("one " + none, Boundaries::overByFirst, y -> y.both(none, 0, 2), NONE);
            noLong("other " + none, Boundaries::overBySecond, y -> y.both(0, none, 2), NONE);
        }
        for (int part : new int[] {-1, 2, MIN, MAX}) {
            noLong("part " + part, Boundaries::overByFirst, y -> y.both(0, 9, part), BAD);
        }
        noLong("ROW 0", Boundaries::overByFirst, y -> y.both(0, 0, 0), OVER);
        noLong("ROW 1", Boundaries::overBySecond, y -> y.both(0, 0, 1), OVER);
        noLong("ALL of SECOND", () -> allBeyond(1), y -> y.both(0, 0, 1), OVER);
        due("OVER of ROW 2 is none of it", overByNext().both(1, 1, 0), 0);
    }

    private static void keptEdges() {
        says(24, "SHIFT 0 .. COMMON less 1, round and round");
        QuotaCarousel x = by(new int[] {3, 4});
        x.odds(0, 2, 3, 4);
        int[] kept = {3, 2, 2, 2};
        for (int shift = 0; shift < 4; shift++) {
            due("3 by 4, shift " + shift, 4 * x.kept(0, shift, 0), kept[shift] * x.kept(0, shift, 1));
        }
        due("shift 4", x.kept(0, 4, 0), LONGS - BAD);
        says(24, "NEXT 0, and NEXT for sure");
        x.odds(0, 2, 0, 4);
        fraction("0 by 4", x.kept(0, 3, 0), x.kept(0, 3, 1), 0, 1);
        x.odds(0, 2, 1, 1);
        fraction("1 by 1", x.kept(0, 3, 0), x.kept(0, 3, 1), 3, 4);
        says(24, "by COMMON of ROW 2, which is beyond that of ROW 0");
        x.odds(0, 2, 5, 24);
        // FIRST on 0 .. 17; NEXT on 23 0 1 2 3 by the last shift.
        fraction("the last shift", x.kept(0, 23, 0), x.kept(0, 23, 1), 1, 6);
        due("shift 24", x.kept(0, 24, 0), LONGS - BAD);
        says(24, "a WHEEL by NEXT of 2147438930 places");
        x = byRow(2, 26, 35, 23, 37, 47, 59);
        fraction("0 by 26", x.kept(0, 2147438929, 0), x.kept(0, 2147438929, 1), 0, 1);
        for (int unit = 0; unit < 6; unit++) {
            x.odds(unit, 2, 1, new int[] {26, 35, 23, 37, 47, 59}[unit]);
        }
        // FIRST and NEXT of 0 both begin at 0; by the last shift all of FIRST's but its last place meets.
        kept(x, 0, 0, 36397270);
        kept(x, 0, 2147438929, 36397270);
        kept(x, 0, 36397269, 1);
        kept(x, 0, 36397270, 0);
        due("one shift too many", x.kept(0, 2147438930, 0), LONGS - BAD);
        says(24, "NONE: unit; BAD: part; OVER (ROW 2); BAD: shift");
        for (int none : new int[] {-1, 10, 12, MIN, MAX}) {
            noLong("unit " + none, Boundaries::overByNext, y -> y.kept(none, -1, 2), NONE);
        }
        for (int bad : new int[] {-1, 6, MIN, MAX}) {
            noLong("part " + bad, Boundaries::overByNext, y -> y.kept(9, -1, bad), BAD);
            noLong("OVER ahead of shift " + bad, Boundaries::overByNext, y -> y.kept(9, bad, 0), OVER);
            noLong("shift " + bad, Boundaries::busy, y -> y.kept(0, bad, 1), BAD);
        }
        noLong("OVER by FIRST", Boundaries::overByFirst, y -> y.kept(0, 0, 0), OVER);
        due("OVER of SECOND is none of it", overBySecond().kept(0, 0, 1), 2);
    }

    /** So many of 2147438930 STARTS. */
    private static void kept(QuotaCarousel x, int unit, int shift, long starts) {
        BigInteger common = BigInteger.valueOf(2147438930), kept = BigInteger.valueOf(starts);
        BigInteger shared = common.gcd(kept);
        fraction("kept(" + unit + ", " + shift + ")", x.kept(unit, shift, 0), x.kept(unit, shift, 1),
            kept.divide(shared).longValue(), common.divide(shared).longValue());
    }

    private static void overlapEdges() {
        says(25, "no UNITS: SHIFT 0 alone");
        fraction("0", fresh().overlap(0, 0), fresh().overlap(0, 1), 0, 1);
        noLong("1", Boundaries::fresh, x -> x.overlap(1, 0), BAD);
        noLong("-1", Boundaries::fresh, x -> x.overlap(-1, 0), BAD);
        fraction("one place, and twelve", twelve(1, 1).overlap(0, 0), twelve(1, 1).overlap(0, 1), 12, 1);
        says(25, "KEPT of all together: none, and all for sure");
        QuotaCarousel x = twelve(60, 60);
        fraction("all, the last shift", x.overlap(59, 0), x.overlap(59, 1), 12, 1);
        for (int unit = 0; unit < 12; unit++) {
            x.odds(unit, 2, 0, 7);
        }
        fraction("none, the last shift of 420", x.overlap(419, 0), x.overlap(419, 1), 0, 1);
        due("shift 420", x.overlap(420, 0), LONGS - BAD);
        says(25, "BAD: part; OVER (ROW 2); BAD: shift");
        for (int bad : new int[] {-1, 6, MIN, MAX}) {
            noLong("part " + bad, Boundaries::overByNext, y -> y.overlap(-1, bad), BAD);
            noLong("OVER ahead of shift " + bad, Boundaries::overByNext, y -> y.overlap(bad, 0), OVER);
            noLong("shift " + bad, Boundaries::busy, y -> y.overlap(bad, 1), BAD);
        }
        noLong("OVER by FIRST", Boundaries::overByFirst, y -> y.overlap(0, 0), OVER);
        due("OVER of SECOND is none of it", overBySecond().overlap(5, 1) < LONGS / 2 ? 1 : 0, 1);
    }

    private static void shifts(String what, QuotaCarousel x, int best, int worst) {
        due(what + ", best", x.shift(0), best);
        due(what + ", worst", x.shift(1), worst);
    }

    private static void shiftEdges() {
        says(26, "one SHIFT alone");
        shifts("no UNITS", fresh(), 0, 0);
        shifts("one place", twelve(1, 1), 0, 0);
        says(26, "of several the least: all alike");
        shifts("all for sure", twelve(60, 60), 0, 0);
        QuotaCarousel x = twelve(1, 60);
        for (int unit = 0; unit < 12; unit++) {
            x.odds(unit, 2, 0, 1);
        }
        shifts("none at all", x, 0, 0);
        says(26, "the last SHIFT");
        x = by(new int[] {5, 6});
        x.odds(0, 2, 1, 6);
        shifts("5 by 6, and 1 by 6", x, 0, 5);
        x = by(new int[] {5, 6}, new int[] {1, 6});
        x.odds(0, 2, 0, 1);
        x.odds(1, 2, 1, 6);
        shifts("1 by 6 on the last place", x, 5, 0);
        says(26, "of several the least: one run of them, that goes round, and two of them");
        x = by(new int[] {1, 6});
        x.odds(0, 2, 3, 6);
        // Kept by shifts 0, 4, 5.
        shifts("1 by 6 and 3 by 6", x, 0, 1);
        x = by(new int[] {2, 6}, new int[] {1, 6}, new int[] {2, 6}, new int[] {1, 6});
        x.odds(0, 2, 0, 1);
        x.odds(1, 2, 1, 6);
        x.odds(2, 2, 0, 1);
        x.odds(3, 2, 1, 6);
        // 1 is on 2, 3 on 5; NEXT of 1 is on 0, of 3 on 1: kept by shifts 2 and 4.
        shifts("two of them", x, 2, 0);
        says(26, "2072850776 places");
        x = by(new int[] {50, 59}, new int[] {1, 59}, new int[] {1, 53}, new int[] {1, 47}, new int[] {1, 43},
            new int[] {1, 41});
        for (int unit = 0; unit < 6; unit++) {
            x.odds(unit, 2, unit == 1 ? 1 : 0, unit == 1 ? 59 : 8);
        }
        due("common", x.common(2), 2072850776);
        shifts("1 by 59, 50 by 59 further on", x, 1756653200, 0);
        fraction("all of it", x.overlap(1756653200, 0), x.overlap(1756653200, 1), 1, 59);
        due("an ARC too early", x.kept(1, 1756653200 - 35133064, 0), 0);
        due("an ARC too late", x.kept(1, 1756653200 + 35133064, 0), 0);
        says(26, "NONE: what; OVER (ROW 2)");
        for (int what : new int[] {-1, 2, MIN, MAX}) {
            no("what " + what, Boundaries::overByNext, y -> y.shift(what), NONE);
        }
        no("OVER by NEXT", Boundaries::overByNext, y -> y.shift(0), OVER);
        no("OVER by FIRST", Boundaries::overByFirst, y -> y.shift(1), OVER);
        due("OVER of SECOND is none of it", overBySecond().shift(1) < 0 ? 0 : 1, 1);
    }

    /** All wheels of two units and six places, and a third unit that comes with them. */
    private static void shiftsOfAll() {
        says(26, "the SHIFT with the greatest OVERLAP, with the least, of several the least");
        for (int i = 0; i < 6 * 6 * 7 * 7; i++) {
            int one = 1 + i % 6, two = 1 + i / 6 % 6, oneNext = i / 36 % 7, twoNext = i / 252;
            QuotaCarousel x = by(new int[] {one, 6}, new int[] {two, 6}, new int[] {1 + i % 4, 6});
            x.odds(0, 2, oneNext, 6);
            x.odds(1, 2, twoNext, 6);
            x.odds(2, 2, i % 7, 6);
            int best = 0, worst = 0;
            for (int shift = 1; shift < 6; shift++) {
                best = sixths(x, shift) > sixths(x, best) ? shift : best;
                worst = sixths(x, shift) < sixths(x, worst) ? shift : worst;
            }
            shifts(one + " " + two + " by " + oneNext + " " + twoNext, x, best, worst);
        }
    }

    private static long sixths(QuotaCarousel x, int shift) {
        return 6 * x.overlap(shift, 0) / x.overlap(shift, 1);
    }

    private static void replacedEdges() {
        says(27, "nobody CHOSEN, nobody REFUSING, all REFUSING");
        due("no UNITS", fresh().replaced(0, 0), 0);
        due("a START that CHOOSES nobody", refusing(oneByEach(2), 1).replaced(1, 0), 0);
        due("nobody refuses", refusing(twelve(1, 2), 0).replaced(0, 0), 1365);
        due("all refuse", refusing(twelve(1, 2), 4095).replaced(0, 0), 0);
        due("all are CHOSEN, and one refuses", refusing(twelve(1, 1), 1 << 11).replaced(0, 0), 2047);
        says(27, "as many SUBSTITUTES as there can be");
        due("0 by 1, 2 by 3, ..", refusing(twelve(1, 2), 1365).replaced(0, 0), 2730);
        due("1 by 2, .., 11 by 0", refusing(twelve(1, 2), 2730).replaced(1, 0), 1365);
        due("all but one", refusing(twelve(1, 2), 1365 | 2).replaced(0, 0), 2730 - 2);
        says(27, "by none, if there is no such one");
        QuotaCarousel x = refusing(oneByEach(1, 1, 2, 2), 3);
        due("0 by 3, 1 by none", x.replaced(0, 0), 12);
        due("0 by 2, 1 by none", x.replaced(1, 0), 12);
        says(27, "by MANNER 1 of its STRATUM, too; by MANNER 0 anyone");
        x = refusing(twelve(1, 12), 1);
        for (int unit = 1; unit < 11; unit++) {
            x.set(unit, 0, 1 + unit % 3);
        }
        due("anyone", x.replaced(0, 0), 2);
        due("the only one of its STRATUM, the last of all", x.replaced(0, 1), 1 << 11);
        x.set(11, 0, 1);
        due("none of it", x.replaced(0, 1), 0);
        says(27, "NONE: manner; OVER; BAD: start");
        for (int manner : new int[] {-1, 2, MIN, MAX}) {
            no("manner " + manner, Boundaries::overByFirst, y -> y.replaced(-1, manner), NONE);
        }
        for (int start : new int[] {-1, 6, MIN, MAX}) {
            no("OVER ahead of start " + start, Boundaries::overByFirst, y -> y.replaced(start, 0), OVER);
            no("start " + start, Boundaries::busy, y -> y.replaced(start, 1), BAD);
        }
    }

    private static void roundTheOrder() {
        says(27, "the first behind it in ORDER, round and round");
        for (int unit = 0; unit < 12; unit++) {
            int behind = unit == 11 ? 0 : unit + 1, two = (unit + 2) % 12, ahead = (unit + 11) % 12;
            due("the one behind " + unit, refusing(twelve(1, 12), 1 << unit).replaced(unit, 0), 1 << behind);
            due("two behind " + unit, refusing(twelve(1, 12), 1 << unit | 1 << behind).replaced(unit, 0), 1 << two);
            due("all the way round from " + unit,
                refusing(twelve(1, 12), 4095 - (1 << ahead)).replaced(unit, 0), 1 << ahead);
        }
        says(27, "no SUBSTITUTE yet: those CHOSEN come in ORDER");
        QuotaCarousel x = refusing(by(new int[] {1, 1}, new int[] {1, 2}, new int[] {1, 1}, new int[] {1, 2}), 5);
        // Start 0 chooses 0 1 2 and leaves 3; start 1 chooses 0 2 3 and leaves 1.
        due("0 gets it", x.substitute(0, 0, 0), 3);
        due("2 doesn't", x.substitute(2, 0, 0), NOT);
        x.order(5);
        x.swap(0, 3);
        // 3 1 2 0: 3 on 0, 1 on 1.
        due("2 gets it", x.substitute(2, 0, 0), 1);
        due("0 doesn't", x.substitute(0, 0, 0), NOT);
    }

    private static void substituteEdges() {
        says(28, "the lesser and the greater number");
        QuotaCarousel x = refusing(twelve(1, 12), 2049);
        due("11 by 1, as 0 refuses", x.substitute(11, 11, 0), 1);
        x.set(0, 1, 0);
        due("11 by 0", x.substitute(11, 11, 0), 0);
        x.set(0, 1, 1);
        x.set(11, 1, 0);
        for (int unit = 1; unit < 11; unit++) {
            x.set(unit, 1, 1);
        }
        due("0 by 11", x.substitute(0, 0, 0), 11);
        says(28, "NONE: unit, manner; OVER; BAD: start; STATE; NOT");
        for (int none : new int[] {-1, 10, 12, MIN, MAX}) {
            no("unit " + none, Boundaries::overByFirst, y -> y.substitute(none, -1, 0), NONE);
        }
        for (int bad : new int[] {-1, 6, MIN, MAX}) {
            no("manner " + bad, Boundaries::overByFirst, y -> y.substitute(0, -1, bad), NONE);
            no("OVER ahead of start " + bad, Boundaries::overByFirst, y -> y.substitute(1, bad, 0), OVER);
            no("start " + bad, Boundaries::busy, y -> y.substitute(1, bad, 0), BAD);
        }
        no("manner 2", Boundaries::overByFirst, y -> y.substitute(0, 0, 2), NONE);
        no("REFUSING, but not CHOSEN", Boundaries::busy, y -> y.substitute(0, 3, 0), STATE);
        no("CHOSEN, but not REFUSING", Boundaries::busy, y -> y.substitute(2, 0, 0), STATE);
        no("neither", Boundaries::busy, y -> y.substitute(1, 0, 0), STATE);
        due("busy has one", busy().substitute(0, 0, 0), 1);
        no("all are CHOSEN", () -> refusing(twelve(1, 1), 1), y -> y.substitute(0, 0, 0), NOT);
        no("all are REFUSING", () -> refusing(twelve(1, 12), 4095), y -> y.substitute(0, 0, 0), NOT);
        no("one UNIT alone", () -> refusing(oneByEach(1), 1), y -> y.substitute(0, 0, 0), NOT);
        no("none of its STRATUM", BoundariesOfTwiceTest::stratumAlone, y -> y.substitute(0, 0, 1), NOT);
        due("but of others", stratumAlone().substitute(0, 0, 0), 1);
    }

    private static QuotaCarousel stratumAlone() {
        QuotaCarousel x = refusing(oneByEach(2, 2), 1);
        x.set(1, 0, 3);
        return x;
    }

    private static void finals(String what, QuotaCarousel x, int unit, int manner, long above, long below) {
        fraction(what, x.finals(unit, manner, 0), x.finals(unit, manner, 1), above, below);
    }

    private static void finalsEdges() {
        says(29, "never, and always");
        finals("one that refuses", refusing(oneByEach(1), 1), 0, 0, 0, 1);
        finals("one that doesn't", oneByEach(1), 0, 1, 1, 1);
        finals("nobody refuses", twelve(1, 60), 11, 0, 1, 60);
        says(29, "round and round");
        finals("11 by 0", refusing(twelve(1, 12), 2048), 0, 0, 1, 6);
        finals("11 alone by all", refusing(twelve(1, 12), 2047), 11, 0, 1, 1);
        finals("11 alone by its STRATUM", refusing(twelve(1, 12), 2047), 11, 1, 1, 1);
        says(29, "by 2147438930 places");
        QuotaCarousel x = refusing(byRow(0, 26, 35, 23, 37, 47, 59), 1);
        finals("1 for itself and for 0", x, 1, 0, 61, 910);
        finals("2 for itself", x, 2, 0, 1, 23);
        x.set(0, 0, 1);
        finals("none of its STRATUM", x, 1, 1, 1, 35);
        says(29, "NONE: unit, manner; BAD: part; OVER");
        for (int none : new int[] {-1, 10, 12, MIN, MAX}) {
            noLong("unit " + none, Boundaries::overByFirst, y -> y.finals(none, 0, 2), NONE);
        }
        for (int bad : new int[] {-1, 2, MIN, MAX}) {
            noLong("manner " + bad, Boundaries::overByFirst, y -> y.finals(9, bad, 2), NONE);
            noLong("part " + bad, Boundaries::overByFirst, y -> y.finals(9, 1, bad), BAD);
        }
        noLong("OVER", Boundaries::overByFirst, y -> y.finals(9, 1, 1), OVER);
        noLong("OVER", Boundaries::overByFirst, y -> y.finals(0, 0, 0), OVER);
    }

    private static void drawnEdges() {
        says(30, "1 .. 60 times, by any long");
        int[] belows = {26, 35, 23, 37, 47, 59};
        for (long z : new long[] {0, 1, -1, Long.MIN_VALUE, Long.MAX_VALUE, -1442695040888963407L}) {
            for (int n : new int[] {1, 2, 59, 60}) {
                due("for sure, seed " + z, twelve(1, 1).drawn(11, n, z), n);
                for (int unit = 0; unit < 6; unit++) {
                    QuotaCarousel x = byRow(0, belows);
                    due("seed " + z + ", " + n + " times, unit " + unit, x.drawn(unit, n, z), drawn(x, unit, n, z));
                }
            }
        }
        says(30, "without its 33 lowest bits, no sign, modulo COMMON");
        for (int below : new int[] {1, 2, 3, 7, 11, 59, 60}) {
            QuotaCarousel x = oneByEach(below);
            for (long z = -5; z <= 5; z++) {
                due("1 by " + below + ", seed " + z, x.drawn(0, 60, z), drawn(oneByEach(below), 0, 60, z));
            }
        }
        says(30, "NONE; BAD: n; OVER");
        for (int none : new int[] {-1, 10, 12, MIN, MAX}) {
            no("unit " + none, Boundaries::overByFirst, y -> y.drawn(none, 0, 1), NONE);
        }
        for (int n : new int[] {0, -1, 61, MIN, MAX}) {
            no("n " + n, Boundaries::overByFirst, y -> y.drawn(9, n, 1), BAD);
        }
        no("OVER", Boundaries::overByFirst, y -> y.drawn(9, 60, 1), OVER);
        no("OVER", Boundaries::overByFirst, y -> y.drawn(0, 1, Long.MIN_VALUE), OVER);
    }

    private static int drawn(QuotaCarousel x, int unit, int n, long z) {
        BigInteger seed = BigInteger.valueOf(z), longs = BigInteger.TWO.pow(64);
        int often = 0;
        for (int i = 0; i < n; i++) {
            seed = seed.multiply(new BigInteger("6364136223846793005")).add(new BigInteger("1442695040888963407"))
                .mod(longs);
            int start = seed.divide(BigInteger.TWO.pow(33)).mod(BigInteger.valueOf(x.common(0))).intValueExact();
            often += x.chosen(start) >> unit & 1;
        }
        return often;
    }
}
