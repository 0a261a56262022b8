import java.math.BigInteger;

/** For each promise what was reckoned by hand: ordinary calls, edges, wrong arguments, the order of refusals. */
public final class PromisesTest {
    private static final int NONE = -1, BAD = -2, STATE = -3, FULL = -4, NOT = -5, OVER = -7;
    private static final int NOTHING = -11, PLACE = -13, BELOW = -14;
    private static int promise, asked, wrong;

    public static void main(String[] args) {
        newObject();
        unit();
        odds();
        setAndMark();
        ofAndFraction();
        order();
        handAndSwap();
        commonPartsSize();
        tooLarge();
        chosenAndRuns();
        joints();
        fair();
        estimates();
        estimatesThatLeaveTheLongs();
        twiceAndBoth();
        keptAndOverlap();
        shift();
        replaced();
        drawn();
        feed();
        tells();
        tellsRefused();
        faults();
        reason();
        lists();
        judge();
        imageAndUndo();
        count();
        System.out.println(asked + " answers looked at, " + wrong + " wrong");
        System.exit(wrong == 0 ? 0 : 1);
    }

    private static void due(String call, long got, long want) {
        asked++;
        if (got != want) {
            wrong++;
            System.out.println("promise " + promise + ": " + call + " answered " + got + ", due is " + want);
        }
    }

    private static void refused(String call, long got, int refusal) {
        due(call, got, 4000000000000000000L - refusal);
    }

    private static void fraction(String call, long above, long below, long wantAbove, long wantBelow) {
        due(call + " above", above, wantAbove);
        due(call + " below", below, wantBelow);
    }

    private static QuotaCarousel fresh() {
        return new QuotaCarousel();
    }

    /**
     * COMMON 6. Arcs: 0 on 0 1 2; 1 on 3 4; 2 on 5 0 1 2; 3 on 3 4 5.
     * Starts 0 1 2 choose 0 and 2; 3 4 choose 1 and 3; 5 chooses 2 and 3.
     */
    private static QuotaCarousel four() {
        QuotaCarousel x = fresh();
        x.unit(1, 2, 0, 10);
        x.unit(1, 3, 0, -4);
        x.unit(2, 3, 1, 7);
        x.unit(1, 2, 1, 0);
        return x;
    }

    private static QuotaCarousel full() {
        QuotaCarousel x = fresh();
        for (int i = 0; i < 12; i++) {
            x.unit(1, 1, 0, 0);
        }
        return x;
    }

    /** COMMON is 59 * 53 * 47 * 43 * 41 * 37, too large for ROW 0. */
    private static QuotaCarousel over() {
        QuotaCarousel x = fresh();
        for (int below : new int[] {59, 53, 47, 43, 41, 37}) {
            x.unit(1, below, 0, 1);
        }
        return x;
    }

    private static void newObject() {
        promise = 1;
        due("count(0)", fresh().count(0), 0);
        due("count(1)", fresh().count(1), 0);
        due("count(2)", fresh().count(2), 0);
        due("count(3)", fresh().count(3), 0);
        due("at(0)", fresh().at(0), NONE);
        due("common(0)", fresh().common(0), 1);
        due("common(1)", fresh().common(1), 1);
        due("common(2)", fresh().common(2), 1);
        due("chosen(0)", fresh().chosen(0), 0);
        due("chosen(1)", fresh().chosen(1), BAD);
        due("size(1)", fresh().size(1), 0);
        due("run(-1, 0)", fresh().run(-1, 0), 1);
        due("run(0, 1)", fresh().run(0, 1), 1);
        due("run(0, 2)", fresh().run(0, 2), 0);
        due("run(1, 0)", fresh().run(1, 0), NOT);
        due("twice(0, 0)", fresh().twice(0, 0), 0);
        due("shift(1)", fresh().shift(1), 0);
        due("replaced(0, 1)", fresh().replaced(0, 1), 0);
        fraction("mean", fresh().mean(0), fresh().mean(1), 0, 1);
        fraction("spread", fresh().spread(0), fresh().spread(1), 0, 1);
        fraction("estimate", fresh().estimate(0, 0), fresh().estimate(0, 1), 0, 1);
        fraction("overlap", fresh().overlap(0, 0), fresh().overlap(0, 1), 0, 1);
        due("undo()", fresh().undo(), STATE);
        refused("look(0, 0)", fresh().look(0, 0), NOTHING);
    }

    private static void unit() {
        promise = 2;
        QuotaCarousel x = fresh();
        due("unit", x.unit(1, 60, 3, -99), 0);
        due("unit", x.unit(60, 60, 0, 99), 1);
        due("above 0", x.unit(0, 2, 0, 0), BAD);
        due("above more than below", x.unit(3, 2, 0, 0), BAD);
        due("below 0", x.unit(0, 0, 0, 0), BAD);
        due("below 61", x.unit(1, 61, 0, 0), BAD);
        due("stratum -1", x.unit(1, 2, -1, 0), BAD);
        due("stratum 4", x.unit(1, 2, 4, 0), BAD);
        due("mark 100", x.unit(1, 2, 0, 100), BAD);
        due("mark -100", x.unit(1, 2, 0, -100), BAD);
        due("count", x.count(0), 2);
        due("stratum", x.of(0, 0), 3);
        due("mark", x.of(0, 2), -99);
        due("not refusing", x.of(0, 1), 0);
        due("second 1 by 1", x.odds(0, 1, 1, 1), 101);
        due("next 1 by 1", x.odds(0, 2, 1, 1), 101);
        due("the thirteenth", full().unit(1, 1, 0, 0), FULL);
        due("BAD ahead of FULL", full().unit(0, 1, 0, 0), BAD);
    }

    private static void odds() {
        promise = 3;
        QuotaCarousel x = four();
        due("first", x.odds(2, 0, 60, 60), 203);
        due("what was", x.odds(2, 0, 1, 4), 6060);
        due("second 0", x.odds(2, 1, 0, 5), 101);
        due("second was 0 by 5", x.odds(2, 1, 1, 1), 5);
        due("next 0", x.odds(2, 2, 0, 60), 101);
        due("next was 0 by 60", x.odds(2, 2, 1, 1), 60);
        due("first stands", x.odds(2, 0, 2, 3), 104);
        due("first 0", x.odds(0, 0, 0, 2), BAD);
        due("above more than below", x.odds(0, 1, 3, 2), BAD);
        due("above below 0", x.odds(0, 1, -1, 2), BAD);
        due("below 0", x.odds(0, 1, 0, 0), BAD);
        due("below 61", x.odds(0, 2, 1, 61), BAD);
        due("no unit", x.odds(4, 0, 1, 1), NONE);
        due("unit -1", x.odds(-1, 0, 1, 1), NONE);
        due("row 3", x.odds(0, 3, 1, 1), NONE);
        due("row -1", x.odds(0, -1, 1, 1), NONE);
        due("NONE ahead of BAD", x.odds(0, 3, 9, 1), NONE);
    }

    private static void setAndMark() {
        promise = 4;
        QuotaCarousel x = four();
        due("stratum", x.set(0, 0, 3), 0);
        due("stratum was", x.set(0, 0, 2), 3);
        due("refusing", x.set(0, 1, 1), 0);
        due("refusing was", x.set(0, 1, 1), 1);
        due("refusing stands", x.of(0, 1), 1);
        due("not any more", x.set(0, 1, 0), 1);
        due("is not", x.of(0, 1), 0);
        due("stratum 4", x.set(0, 0, 4), BAD);
        due("stratum -1", x.set(0, 0, -1), BAD);
        due("refusing 2", x.set(0, 1, 2), BAD);
        due("refusing -1", x.set(0, 1, -1), BAD);
        due("no unit", x.set(4, 0, 0), NONE);
        due("what 2", x.set(0, 2, 0), NONE);
        due("what -1", x.set(0, -1, 9), NONE);
        promise = 5;
        due("mark", x.mark(1, -99), 1);
        due("it stands", x.of(1, 2), -99);
        due("mark", x.mark(1, 99), 1);
        due("mark 100", x.mark(1, 100), BAD);
        due("mark -100", x.mark(1, -100), BAD);
        due("no unit", x.mark(4, 100), NONE);
        due("it stands", x.of(1, 2), 99);
    }

    private static void ofAndFraction() {
        promise = 6;
        QuotaCarousel x = four();
        x.order(3);
        due("stratum", x.of(2, 0), 1);
        due("refusing", x.of(2, 1), 0);
        due("mark", x.of(1, 2), -4);
        due("place", x.of(1, 3), 0);
        due("place", x.of(0, 3), 3);
        refused("what 4", x.of(0, 4), NONE);
        refused("what -1", x.of(0, -1), NONE);
        refused("no unit", x.of(4, 0), NONE);
        promise = 7;
        x.odds(0, 1, 24, 60);
        x.odds(0, 2, 0, 7);
        fraction("first", x.fraction(2, 0, 0), x.fraction(2, 0, 1), 2, 3);
        fraction("24 by 60", x.fraction(0, 1, 0), x.fraction(0, 1, 1), 2, 5);
        fraction("0 by 7", x.fraction(0, 2, 0), x.fraction(0, 2, 1), 0, 1);
        refused("no unit", x.fraction(4, 0, 2), NONE);
        refused("row 3", x.fraction(0, 3, 2), NONE);
        refused("part 2", x.fraction(0, 0, 2), BAD);
        refused("part -1", x.fraction(0, 0, -1), BAD);
    }

    private static void places(String what, QuotaCarousel x, int... due) {
        for (int i = 0; i < due.length; i++) {
            due(what + ", at(" + i + ")", x.at(i), due[i]);
            due(what + ", place of " + due[i], x.of(due[i], 3), i);
        }
    }

    private static void order() {
        promise = 8;
        QuotaCarousel x = fresh();
        x.unit(1, 3, 1, 5);
        x.unit(3, 6, 0, 2);
        x.unit(1, 2, 1, 9);
        x.unit(29, 60, 3, 5);
        x.unit(1, 2, 2, 5);
        x.unit(4, 7, 3, -5);
        x.unit(1, 1, 2, -9);
        x.unit(1, 5, 0, 1);
        due("from 0", x.order(0), 0);
        places("by numbers", x, 0, 1, 2, 3, 4, 5, 6, 7);
        due("from 0", x.order(1), 0);
        places("by FIRST", x, 6, 5, 1, 2, 4, 3, 0, 7);
        due("from 1", x.order(2), 1);
        places("by STRATA", x, 1, 7, 0, 2, 4, 6, 3, 5);
        due("from 2", x.order(3), 2);
        places("by MARKS", x, 6, 5, 7, 1, 0, 3, 4, 2);
        due("from 3", x.order(4), 3);
        places("by STRATA and MARKS", x, 7, 1, 2, 0, 6, 4, 3, 5);
        x.mark(7, 3);
        x.set(2, 0, 0);
        places("after changes", x, 1, 7, 2, 0, 6, 4, 3, 5);
        due("from 4", x.order(5), 4);
        places("by hand", x, 0, 1, 2, 3, 4, 5, 6, 7);
        due("6", x.order(6), BAD);
        due("-1", x.order(-1), BAD);
        due("it stands", x.count(1), 5);
        promise = 9;
        due("beyond", x.at(8), NONE);
        due("-1", x.at(-1), NONE);
        x.order(1);
        x.odds(7, 0, 1, 1);
        places("odds that change", x, 6, 7, 5, 1, 2, 4, 3, 0);
    }

    private static void handAndSwap() {
        promise = 10;
        QuotaCarousel x = four();
        due("swap while by numbers", x.swap(0, 3), 3);
        places("by numbers", x, 0, 1, 2, 3);
        x.order(5);
        places("by hand", x, 3, 1, 2, 0);
        due("swap", x.swap(2, 0), 3);
        places("by hand", x, 2, 1, 3, 0);
        x.unit(1, 1, 0, 0);
        places("one more", x, 2, 1, 3, 0, 4);
        due("itself", x.swap(4, 4), NOT);
        due("no place p", x.swap(5, 0), NONE);
        due("no place q", x.swap(0, -1), NONE);
        due("NONE ahead of NOT", x.swap(5, 5), NONE);
        places("as it was", x, 2, 1, 3, 0, 4);
    }

    private static void commonPartsSize() {
        promise = 11;
        QuotaCarousel x = four();
        due("first", x.common(0), 6);
        due("second", x.common(1), 1);
        x.odds(3, 1, 0, 10);
        x.odds(0, 2, 2, 8);
        due("second, above 0 too", x.common(1), 10);
        due("first and next", x.common(2), 24);
        due("not in lowest terms", x.odds(0, 0, 2, 4) == 102 ? x.common(0) : 0, 12);
        due("row 3", x.common(3), NONE);
        due("row -1", x.common(-1), NONE);
        promise = 12;
        x = four();
        due("parts", x.parts(0), 3);
        due("parts", x.parts(1), 2);
        due("parts", x.parts(2), 4);
        due("by COMMON of FIRST", x.odds(0, 2, 1, 7) == 101 ? x.parts(3) : 0, 3);
        due("no unit", x.parts(4), NONE);
        promise = 13;
        due("least", x.size(0), 2);
        due("most", x.size(1), 2);
        x.unit(1, 6, 0, 0);
        due("least", x.size(0), 2);
        due("most", x.size(1), 3);
        due("what 2", x.size(2), NONE);
        due("what -1", x.size(-1), NONE);
    }

    private static void tooLarge() {
        promise = 11;
        QuotaCarousel x = over();
        due("ROW 0", x.common(0), OVER);
        due("ROW 1", x.common(1), 1);
        due("ROW 2", x.common(2), OVER);
        due("row ahead of OVER", x.common(3), NONE);
        due("parts", x.parts(0), OVER);
        due("no unit ahead of OVER", x.parts(6), NONE);
        due("size", x.size(0), OVER);
        due("what ahead of OVER", x.size(2), NONE);
        due("OVER ahead of BAD", x.chosen(-1), OVER);
        due("run", x.run(0, 0), OVER);
        due("no such what", x.run(-1, 3), NONE);
        refused("joint", x.joint(0, 5, 1), OVER);
        refused("part ahead of OVER", x.joint(0, 5, 2), BAD);
        refused("joints", x.joints(0, 0), OVER);
        due("fair", x.fair(3), OVER);
        refused("estimate: OVER ahead of start", x.estimate(-1, 0), OVER);
        refused("estimate: part ahead of OVER", x.estimate(-1, 2), BAD);
        refused("mean", x.mean(0), OVER);
        refused("spread", x.spread(1), OVER);
        refused("spread: part", x.spread(2), BAD);
        due("twice", x.twice(-1, 0), OVER);
        refused("both", x.both(0, 1, 0), OVER);
        refused("kept", x.kept(0, -1, 0), OVER);
        refused("overlap", x.overlap(-1, 0), OVER);
        due("shift", x.shift(0), OVER);
        due("replaced", x.replaced(-1, 0), OVER);
        due("substitute", x.substitute(0, -1, 0), OVER);
        refused("finals", x.finals(0, 0, 0), OVER);
        due("drawn", x.drawn(0, 1, 1), OVER);
        due("drawn: n ahead of OVER", x.drawn(0, 61, 1), BAD);
        due("list", x.list(0, 0), 1);
        due("judge", x.judge(0, 0), OVER);
        due("judge: NOTHING ahead of OVER", x.judge(1, 0), NOTHING);
        overByAll();
        allAtTheEdge();
        overByOtherRows();
    }

    /** COMMON below 2 to the 31st, ALL above it. */
    private static void overByAll() {
        QuotaCarousel x = fresh();
        for (int below : new int[] {59, 53, 47, 43, 41, 5}) {
            x.unit(1, below, 0, 1);
        }
        due("COMMON is 5 times 259106347", x.common(0), 1295531735);
        x.odds(0, 0, 45, 59);
        due("ALL below", x.common(0), 1295531735);
        x.odds(1, 0, 53, 53);
        due("ALL above", x.common(0), OVER);
        x = fresh();
        for (int below : new int[] {59, 53, 47, 43, 41, 8}) {
            x.unit(1, below, 0, 1);
        }
        due("COMMON is 8 times 259106347", x.common(0), 2072850776);
        x.odds(5, 0, 1, 9);
        due("COMMON is 9 times it", x.common(0), OVER);
    }

    /** By COMMON 309663683: ALL is 2147483647 to the one, which isn't over, and one more, which is. */
    private static void allAtTheEdge() {
        int[] edge = {39, 39, 14, 27, 30, 1, 1, 1, 1}, beyond = {43, 33, 10, 37, 25, 1, 1, 1, 1};
        for (int row = 0; row < 3; row++) {
            due("ALL 2147483647, row " + row, nine(row, edge).common(row), 309663683);
            due("ALL 2147483648, row " + row, nine(row, beyond).common(row), OVER);
        }
        due("ALL of FIRST 2147483647, row 2", nine(0, edge).common(2), 309663683);
        due("ALL of FIRST 2147483648, row 2", nine(0, beyond).common(2), OVER);
    }

    private static QuotaCarousel nine(int row, int[] aboves) {
        int[] belows = {59, 53, 47, 43, 49, 1, 1, 1, 1};
        QuotaCarousel x = fresh();
        for (int i = 0; i < 9; i++) {
            x.unit(row == 0 ? aboves[i] : 1, row == 0 ? belows[i] : 59, 0, 0);
            x.odds(i, 1, row == 1 ? aboves[i] : 0, belows[i]);
            x.odds(i, 2, row == 2 ? aboves[i] : 0, belows[i]);
        }
        return x;
    }

    private static void overByOtherRows() {
        QuotaCarousel x = four();
        for (int below : new int[] {59, 53, 47, 43, 41, 37}) {
            x.unit(1, 6, 0, 0);
            x.odds(x.count(0) - 1, 1, 1, below);
        }
        due("ROW 0", x.common(0), 6);
        due("ROW 1", x.common(1), OVER);
        due("ROW 2", x.common(2), 6);
        due("twice by ROW 1", x.twice(-1, 0), OVER);
        refused("both by ROW 1", x.both(0, 0, 0), OVER);
        x = four();
        for (int below : new int[] {59, 53, 47, 43, 13}) {
            x.unit(1, 6, 0, 0);
            x.odds(x.count(0) - 1, 2, 0, below);
        }
        x.odds(0, 2, 0, 1);
        x.odds(1, 2, 0, 1);
        x.odds(2, 2, 0, 1);
        due("ROW 2: 6 times 13 times 6319667", x.common(2), 492934026);
        x.odds(0, 2, 1, 1);
        x.odds(1, 2, 1, 1);
        x.odds(2, 2, 1, 1);
        due("ALL of NEXT is 4 times that", x.common(2), 492934026);
        x.odds(4, 2, 59, 59);
        due("ALL of NEXT is over", x.common(2), OVER);
        x.odds(4, 2, 0, 59);
        x.odds(0, 0, 1, 1);
        x.odds(1, 0, 1, 1);
        x.odds(2, 0, 1, 1);
        x.odds(3, 0, 1, 1);
        due("ALL of FIRST is over by ROW 2", x.common(2), OVER);
        due("but not by ROW 0", x.common(0), 6);
    }

    private static void chosenAndRuns() {
        promise = 14;
        QuotaCarousel x = four();
        int[] due = {5, 5, 5, 10, 10, 12};
        for (int start = 0; start < 6; start++) {
            due("chosen(" + start + ")", x.chosen(start), due[start]);
        }
        due("chosen(6)", x.chosen(6), BAD);
        due("chosen(-1)", x.chosen(-1), BAD);
        promise = 15;
        int[][] runs = {{0, 3, 5}, {3, 2, 10}, {5, 1, 12}};
        due("run(-1, 0)", x.run(-1, 0), 3);
        due("run(-1, 2)", x.run(-1, 2), 3);
        for (int k = 0; k < 3; k++) {
            for (int what = 0; what < 3; what++) {
                due("run(" + k + ", " + what + ")", x.run(k, what), runs[k][what]);
            }
        }
        due("run(3, 0)", x.run(3, 0), NOT);
        due("run(2147483647, 0)", x.run(Integer.MAX_VALUE, 0), NOT);
        due("run(-2, 0)", x.run(-2, 0), NONE);
        due("run(-1, 3)", x.run(-1, 3), NONE);
        due("run(9, -1)", x.run(9, -1), NONE);
        // Unit 2 goes round from the last place to the first; the last run isn't joined with the first.
        QuotaCarousel y = fresh();
        y.unit(1, 2, 0, 0);
        y.unit(1, 4, 0, 0);
        y.unit(2, 4, 0, 0);
        due("{0} {1} {2} and round", y.run(-1, 0), 4);
        y.odds(0, 0, 1, 1);
        y.odds(1, 0, 3, 4);
        y.odds(2, 0, 1, 1);
        due("a full arc is no edge", y.run(-1, 0), 2);
        due("who isn't chosen", y.run(1, 2), 5);
        y.odds(1, 0, 4, 4);
        due("all full", y.run(-1, 0), 1);
        due("all four starts", y.run(0, 1), 4);
    }

    private static void joints() {
        promise = 16;
        QuotaCarousel x = four();
        fraction("0 and 2", x.joint(0, 2, 0), x.joint(0, 2, 1), 1, 2);
        fraction("2 and 3", x.joint(2, 3, 0), x.joint(3, 2, 1), 1, 6);
        fraction("0 and 1", x.joint(0, 1, 0), x.joint(0, 1, 1), 0, 1);
        fraction("2 twice", x.joint(2, 2, 0), x.joint(2, 2, 1), 2, 3);
        refused("no other", x.joint(0, 4, 0), NONE);
        refused("no one", x.joint(-1, 0, 2), NONE);
        refused("part", x.joint(0, 0, 2), BAD);
        promise = 17;
        fraction("of 2", x.joints(2, 0), x.joints(2, 1), 4, 3);
        fraction("of 0", x.joints(0, 0), x.joints(0, 1), 1, 1);
        refused("no unit", x.joints(4, 2), NONE);
        refused("part", x.joints(0, -1), BAD);
        // Arcs that meet at both ends: 3 by 4 each on 4 places.
        QuotaCarousel y = fresh();
        y.unit(3, 4, 0, 0);
        y.unit(3, 4, 0, 0);
        fraction("twice round", y.joint(0, 1, 0), y.joint(0, 1, 1), 1, 2);
    }

    private static void fair() {
        promise = 18;
        QuotaCarousel x = four();
        due("5 by 6: one, or none", x.fair(0), 1);
        due("7 by 6: one or two", x.fair(1), 1);
        due("empty", x.fair(2), 1);
        x.set(0, 0, 1);
        x.set(3, 0, 0);
        due("0 and 2: ten parts are 7 by 6; two or none", x.fair(1), 0);
        due("1 and 3: five parts; two, or none", x.fair(0), 0);
        due("stratum 4", x.fair(4), NONE);
        due("stratum -1", x.fair(-1), NONE);
        // Parts just as many as places: exactly one is due, and start 0 chooses two.
        QuotaCarousel y = fresh();
        y.unit(1, 2, 0, 0);
        y.unit(1, 2, 1, 0);
        y.unit(1, 2, 0, 0);
        due("0 and 2 meet", y.fair(0), 0);
        y.order(2);
        due("by strata they don't", y.fair(0), 1);
    }

    private static void estimates() {
        promise = 19;
        QuotaCarousel x = four();
        fraction("20 and 21 by 2", x.estimate(0, 0), x.estimate(0, 1), 61, 2);
        fraction("-12 and 0", x.estimate(4, 0), x.estimate(4, 1), -12, 1);
        fraction("21 by 2 and 0", x.estimate(5, 0), x.estimate(5, 1), 21, 2);
        refused("start 6", x.estimate(6, 0), BAD);
        refused("start -1", x.estimate(-1, 0), BAD);
        refused("part 2", x.estimate(0, 2), BAD);
        promise = 20;
        fraction("marks together", x.mean(0), x.mean(1), 13, 1);
        refused("part 2", x.mean(2), BAD);
        promise = 21;
        // 35 by 2, -25, -5 by 2, squared, by 1 by 2, 1 by 3, 1 by 6.
        fraction("spread", x.spread(0), x.spread(1), 725, 2);
        refused("part -1", x.spread(-1), BAD);
        x.odds(1, 0, 2, 3);
        fraction("marks together, sizes that change", x.mean(0), x.mean(1), 13, 1);
    }

    /** Twelve odds with aboves that share little: their estimates' lowest terms leave the longs. */
    private static void estimatesThatLeaveTheLongs() {
        promise = 19;
        QuotaCarousel x = fresh();
        int[] odds = {58, 57, 55, 53, 52, 51, 49, 47, 46, 43, 41, 37};
        for (int above : odds) {
            x.unit(above, 59, 0, 97);
        }
        int over = 0;
        for (int start = 0; start < 59; start++) {
            BigInteger[] sum = {BigInteger.ZERO, BigInteger.ONE};
            boolean fits = true;
            for (int unit = 0; unit < 12; unit++) {
                if ((x.chosen(start) >> unit & 1) != 0) {
                    fits &= add(sum, 97 * 59, odds[unit]);
                }
            }
            over += fits ? 0 : 1;
            due("above, start " + start, x.estimate(start, 0), fits ? sum[0].longValue() : 4000000000000000007L);
            due("below, start " + start, x.estimate(start, 1), fits ? sum[1].longValue() : 4000000000000000007L);
        }
        due("some are over, not all", over > 0 && over < 59 ? 1 : 0, 1);
        promise = 20;
        refused("mean", x.mean(0), OVER);
        due("why", x.reason(0), OVER);
        due("behind it", x.reason(2), -9);
        promise = 21;
        refused("spread", x.spread(0), OVER);
        // Here the mean stays in the longs, and squares leave them.
        QuotaCarousel y = fresh();
        for (int above : new int[] {58, 57, 55, 53, 51, 49}) {
            y.unit(above, 59, 0, 98);
        }
        fraction("mean", y.mean(0), y.mean(1), 6 * 98, 1);
        refused("spread", y.spread(1), OVER);
    }

    private static boolean add(BigInteger[] sum, long above, long below) {
        BigInteger c = BigInteger.valueOf(above), d = BigInteger.valueOf(below), shared = c.gcd(d);
        c = c.divide(shared);
        d = d.divide(shared);
        BigInteger left = sum[0].multiply(d), right = c.multiply(sum[1]);
        BigInteger both = left.add(right), below2 = sum[1].multiply(d);
        boolean fits = Math.max(Math.max(left.bitLength(), right.bitLength()),
            Math.max(both.bitLength(), below2.bitLength())) < 64;
        BigInteger lowest = both.gcd(below2);
        sum[0] = both.divide(lowest);
        sum[1] = below2.divide(lowest);
        return fits;
    }

    private static void twiceAndBoth() {
        promise = 22;
        QuotaCarousel x = four();
        x.odds(0, 1, 1, 2);
        x.odds(2, 1, 1, 3);
        due("start 0: 0 on 0 1 2, 2 on 3 4", x.twice(0, 2), 1);
        due("2", x.twice(0, 3), 4);
        due("2", x.twice(0, 4), 4);
        due("nobody", x.twice(0, 5), 0);
        due("both for sure", x.twice(3, 5), 10);
        due("2 on 0 1, 3 on all", x.twice(5, 1), 12);
        due("3 alone", x.twice(5, 2), 8);
        due("start 6", x.twice(6, 0), BAD);
        due("again 6", x.twice(0, 6), BAD);
        due("again -1", x.twice(0, -1), BAD);
        promise = 23;
        fraction("0 twice", x.both(0, 0, 0), x.both(0, 0, 1), 1, 4);
        fraction("2 and 3", x.both(2, 3, 0), x.both(3, 2, 1), 1, 18);
        fraction("0 and 2", x.both(0, 2, 0), x.both(0, 2, 1), 0, 1);
        fraction("2 twice", x.both(2, 2, 0), x.both(2, 2, 1), 2, 9);
        refused("no unit", x.both(0, 4, 2), NONE);
        refused("part", x.both(0, 1, 2), BAD);
    }

    private static QuotaCarousel fourAgain() {
        QuotaCarousel x = four();
        x.odds(0, 2, 1, 2);
        x.odds(1, 2, 1, 3);
        x.odds(2, 2, 1, 2);
        x.odds(3, 2, 2, 3);
        return x;
    }

    private static void keptAndOverlap() {
        promise = 24;
        QuotaCarousel x = fourAgain();
        // NEXT: 0 on 0 1 2; 1 on 3 4; 2 on 5 0 1; 3 on 2 3 4 5; then all so many places further on.
        int[][] kept = {{3, 2, 1, 0, 1, 2}, {2, 1, 0, 0, 0, 1}, {3, 3, 2, 1, 1, 2}, {3, 3, 2, 1, 1, 2}};
        for (int shift = 0; shift < 6; shift++) {
            for (int unit = 0; unit < 4; unit++) {
                long above = x.kept(unit, shift, 0);
                long below = x.kept(unit, shift, 1);
                due("kept(" + unit + ", " + shift + ") of 6", 6 * above, kept[unit][shift] * below);
            }
        }
        fraction("kept(2, 2)", x.kept(2, 2, 0), x.kept(2, 2, 1), 1, 3);
        refused("no unit", x.kept(4, 9, 9), NONE);
        refused("part", x.kept(0, 9, 9), BAD);
        refused("shift 6", x.kept(0, 6, 0), BAD);
        refused("shift -1", x.kept(0, -1, 0), BAD);
        promise = 25;
        fraction("shift 0", x.overlap(0, 0), x.overlap(0, 1), 11, 6);
        fraction("shift 1", x.overlap(1, 0), x.overlap(1, 1), 3, 2);
        fraction("shift 3", x.overlap(3, 0), x.overlap(3, 1), 1, 3);
        refused("shift 6", x.overlap(6, 0), BAD);
        refused("shift -1", x.overlap(-1, 1), BAD);
        refused("part", x.overlap(0, 2), BAD);
        x.odds(3, 2, 5, 24);
        // By COMMON of both, 24: 3 is on 12 .. 23, NEXT on 8 .. 12.
        fraction("shift 5", x.kept(3, 5, 0), x.kept(3, 5, 1), 5, 24);
        fraction("shift 23", x.kept(3, 23, 0), x.kept(3, 23, 1), 0, 1);
    }

    private static void shift() {
        promise = 26;
        QuotaCarousel x = fourAgain();
        due("best", x.shift(0), 0);
        due("worst", x.shift(1), 3);
        due("what 2", x.shift(2), NONE);
        due("what -1", x.shift(-1), NONE);
        QuotaCarousel y = fresh();
        y.unit(1, 6, 0, 0);
        y.unit(1, 6, 0, 0);
        y.odds(0, 2, 0, 1);
        y.odds(1, 2, 1, 2);
        // 1 is on 1, NEXT on 0 1 2: kept by shifts 0, 1 and 5.
        due("the least of several best", y.shift(0), 0);
        due("the least of several worst", y.shift(1), 2);
        y.odds(0, 2, 3, 6);
        y.odds(0, 0, 2, 6);
        y.odds(1, 0, 1, 6);
        // 0 on 0 1, NEXT on 0 1 2; 1 on 2, NEXT on 3 4 5: together 2, 1, 0, 1, 2, 3 places.
        due("best", y.shift(0), 5);
        due("worst", y.shift(1), 2);
    }

    private static void replaced() {
        promise = 27;
        QuotaCarousel x = four();
        due("nobody refuses", x.replaced(5, 0), 12);
        x.set(0, 1, 1);
        x.set(2, 1, 1);
        due("0 by 1, 2 by 3", x.replaced(0, 0), 10);
        due("of their strata, too", x.replaced(0, 1), 10);
        due("2 by 1, round", x.replaced(5, 0), 10);
        due("none of its stratum", x.replaced(5, 1), 8);
        due("those chosen don't refuse", x.replaced(3, 1), 10);
        due("manner 2", x.replaced(9, 2), NONE);
        due("manner -1", x.replaced(0, -1), NONE);
        due("start 6", x.replaced(6, 0), BAD);
        promise = 28;
        due("0", x.substitute(0, 0, 0), 1);
        due("2", x.substitute(2, 0, 0), 3);
        due("2 from start 5", x.substitute(2, 5, 0), 1);
        due("none of its stratum", x.substitute(2, 5, 1), NOT);
        due("isn't chosen", x.substitute(0, 5, 0), STATE);
        due("isn't refusing", x.substitute(3, 5, 0), STATE);
        due("no unit", x.substitute(4, 9, 9), NONE);
        due("manner 2", x.substitute(0, 9, 2), NONE);
        due("start 6", x.substitute(0, 6, 0), BAD);
        promise = 29;
        fraction("1, anyone", x.finals(1, 0, 0), x.finals(1, 0, 1), 1, 1);
        fraction("1, of its stratum", x.finals(1, 1, 0), x.finals(1, 1, 1), 5, 6);
        fraction("0", x.finals(0, 0, 0), x.finals(0, 0, 1), 0, 1);
        refused("no unit", x.finals(4, 0, 2), NONE);
        refused("manner 2", x.finals(0, 2, 2), NONE);
        refused("part 2", x.finals(0, 0, 2), BAD);
        promise = 27;
        // Start 1 chooses 0 and 1, which both refuse, and leaves 2.
        QuotaCarousel y = fresh();
        y.unit(1, 1, 0, 0);
        y.unit(1, 1, 0, 0);
        y.unit(1, 2, 0, 0);
        y.set(0, 1, 1);
        y.set(1, 1, 1);
        due("0 by 2, which 1 doesn't get again", y.replaced(1, 0), 4);
        due("0 has it", y.substitute(0, 1, 0), 2);
        due("1 has none", y.substitute(1, 1, 0), NOT);
        y.order(5);
        y.swap(0, 1);
        due("1 comes first by hand", y.substitute(1, 1, 0), 2);
        due("and 0 has none", y.substitute(0, 1, 0), NOT);
    }

    private static void drawn() {
        promise = 30;
        QuotaCarousel x = four();
        for (long z : new long[] {0, 1, -1, 123456789, Long.MIN_VALUE, Long.MAX_VALUE}) {
            for (int n : new int[] {1, 2, 60}) {
                for (int unit = 0; unit < 4; unit++) {
                    due("drawn(" + unit + ", " + n + ", " + z + ")", x.drawn(unit, n, z), drawnBy(x, unit, n, z));
                }
            }
        }
        due("n 0", x.drawn(0, 0, 1), BAD);
        due("n 61", x.drawn(0, 61, 1), BAD);
        due("no unit", x.drawn(4, 0, 1), NONE);
    }

    private static int drawnBy(QuotaCarousel x, int unit, int n, long z) {
        BigInteger seed = BigInteger.valueOf(z);
        int often = 0;
        for (int i = 0; i < n; i++) {
            seed = seed.multiply(new BigInteger("6364136223846793005")).add(new BigInteger("1442695040888963407"));
            BigInteger high = seed.mod(BigInteger.TWO.pow(64)).divide(BigInteger.TWO.pow(33));
            often += x.chosen(high.mod(BigInteger.valueOf(6)).intValue()) >> unit & 1;
        }
        return often;
    }

    private static void feed() {
        promise = 31;
        QuotaCarousel x = fresh();
        due("0", x.feed(0), BAD);
        due("128", x.feed(128), BAD);
        due("-1", x.feed(-1), BAD);
        for (int i = 1; i <= 120; i++) {
            due("feed", x.feed(i), i);
        }
        due("the 121st", x.feed(1), FULL);
        due("BAD ahead of FULL", x.feed(0), BAD);
        due("count", x.count(2), 120);
        due("tells", x.tells(), -100);
        due("empty", x.count(2), 0);
        due("127", x.feed(127), 1);
    }

    private static int tell(QuotaCarousel x, String text) {
        for (int i = 0; i < text.length(); i++) {
            x.feed(text.charAt(i));
        }
        int told = x.tells();
        due("the tape is empty behind " + text, x.count(2), 0);
        return told;
    }

    private static void tells() {
        promise = 32;
        QuotaCarousel x = fresh();
        due("one unit", tell(x, "u1/2,3,-45"), 1);
        due("its stratum", x.of(0, 0), 3);
        due("its mark", x.of(0, 2), -45);
        due("its first", x.odds(0, 0, 1, 2), 102);
        due("two digits", tell(x, "u09/60,0,99;u01/01,1,-0;s00,00/07;n1,5/9"), 4);
        due("units", x.count(0), 3);
        due("first", x.odds(1, 0, 9, 60), 960);
        due("second of 0", x.odds(0, 1, 1, 1), 7);
        due("next of 1", x.odds(1, 2, 1, 1), 509);
        due("mark -0", x.of(2, 2), 0);
        due("order, refusing, hand", tell(x, "o5;r1;x0,02;r2;r1"), 5);
        due("order", x.count(1), 5);
        due("refusing", x.count(3), 4);
        due("hand", x.at(0), 2);
        due("a full tape", tell(x, "r00" + ";o1".repeat(39)), 40);
        due("a full tape that ends too early", tell(x, "o1" + ";o2".repeat(39) + ";"), -220);
    }

    private static void tellsRefused() {
        QuotaCarousel x = four();
        x.order(2);
        x.set(1, 1, 1);
        due("above 0", tell(x, "u0/1,0,0"), -300);
        due("stratum 4", tell(x, "o1;u1/1,4,0"), -303);
        due("order 6", tell(x, "r0;x0,1;o6;q"), -111);
        due("order 6", tell(x, "r0;x0,1;o6"), -308);
        due("no unit to refuse", tell(x, "u1/2,0,0;r5"), -309);
        due("one that came before", tell(x, "u1/1,0,0;r4;r4;s4,0/3"), 4);
        due("BAD", x.odds(4, 1, 1, 1), 3);
        due("same place", tell(x, "o1;r2;s0,1/9;n0,1/9;x2,2"), -320);
        due("units", x.count(0), 5);
        due("order", x.count(1), 2);
        due("refusing", x.count(3), 2);
        due("second", x.odds(0, 1, 1, 1), 101);
        due("next", x.odds(0, 2, 1, 1), 101);
        x.order(5);
        places("hand", x, 0, 1, 2, 3, 4);
        x = full();
        due("FULL", tell(x, "o1;u1/1,0,0"), -303);
        due("why", x.reason(2), FULL);
        x = fresh();
        due("OVER behind all", tell(x, "u1/59,0,0;u1/53,0,0;u1/47,0,0;u1/43,0,0;u1/41,0,0;u1/37,0,0"), OVER);
        due("all is as it was", x.count(0), 0);
        due("a clause ahead of OVER", tell(x, "u1/59,0,0;u1/53,0,0;u1/47,0,0;u1/43,0,0;u1/41,0,0;u1/37,0,0;o9"), -360);
        x = over();
        due("OVER ahead of the text, too", tell(x, "o1"), OVER);
        due("order", x.count(1), 0);
    }

    private static void faults() {
        String[] texts = {"", "q", ";", "u", "u/", "u1", "u12", "u123", "u1/", "u1/x", "u1/2,", "u1/2,12", "u1/2,1,",
            "u1/2,1,-", "u1/2,1,--1", "u1/2,1,+1", "u1/2,1,-12;", "u1/2,1,123", "u1/2,1,-123", "u1/2,1, 1", " o1",
            "o", "o12", "o1 ", "o1;;", "o1;", "r", "r123", "r-1", "x1", "x1,", "x1,23,", "x,1", "s1,1,1", "s1/1,1",
            "s1,1/", "n1,1/100", "n1", "U1/2,1,1", "o9;o9;p", "u1/61,0,0;u"};
        int[] faults = {0, 0, 0, 1, 1, 2, 3, 3, 3, 3, 5, 6, 7,
            8, 8, 7, 11, 9, 10, 7, 0,
            1, 2, 2, 3, 3, 1, 3, 1, 2, 3, 5, 1, 4, 2,
            5, 7, 2, 0, 6, 11};
        for (int i = 0; i < texts.length; i++) {
            QuotaCarousel x = four();
            due("\"" + texts[i] + "\"", tell(x, texts[i]), -100 - faults[i]);
            due("why, \"" + texts[i] + "\"", x.reason(0), -100 - faults[i]);
            due("nothing behind it", x.reason(1), 0);
            due("units", x.count(0), 4);
        }
    }

    private static void why(String what, QuotaCarousel x, int... due) {
        for (int i = 0; i < due.length; i++) {
            due(what + ", reason(" + i + ")", x.reason(i), due[i]);
        }
        due(what + ", reason(4)", x.reason(4), 0);
        due(what + ", reason(-1)", x.reason(-1), 0);
    }

    private static void reason() {
        promise = 33;
        QuotaCarousel x = fresh();
        why("none yet", x, 0, 0, 0, 0);
        x.at(0);
        why("NONE", x, NONE, 0, 0, 0);
        x.fraction(0, 0, 0);
        x.order(9);
        x.order(1);
        why("BAD, and an answer behind it", x, BAD, 0, 0, 0);
        x.look(0, 0);
        why("of longs the number taken away", x, NOTHING, 0, 0, 0);
        x.list(0, 0);
        due("agrees", x.judge(0, 0), NOT);
        why("-5 of judge() is no refusal", x, NOTHING, 0, 0, 0);
        x.list(0, -1);
        why("BELOW", x, BELOW, 0, 0, 0);
        x.put(0, 0, 0);
        why("PLACE", x, PLACE, 0, 0, 0);
        x.undo();
        why("STATE", x, STATE, 0, 0, 0);
        tell(x, "r9");
        why("a clause", x, -300, 1, NONE, NONE);
        tell(x, "o1;o7");
        why("a clause", x, -303, 1, BAD, BAD);
        tell(x, "u1/1,0,0;x0,0");
        why("a clause", x, -309, 1, NOT, NOT);
        tell(x, "o1,");
        why("a fault", x, -102, 0, 0, 0);
        x.run(7, 0);
        why("NOT", x, NOT, 0, 0, 0);
        QuotaCarousel y = over();
        y.shift(0);
        why("OVER", y, OVER, 1, -9, -9);
        y.parts(9);
        why("NONE", y, NONE, 0, 0, 0);
        y.joint(0, 1, 0);
        why("OVER of a long", y, OVER, 1, -9, -9);
        tell(y, "o1");
        why("a text that is over", y, OVER, 2, OVER, -9);
        y.judge(0, -1);
        why("NONE", y, NONE, 0, 0, 0);
    }

    private static void lists() {
        promise = 34;
        QuotaCarousel x = fresh();
        due("list", x.list(0, 15), 1);
        due("16", x.list(0, 16), BAD);
        due("-1", x.list(0, -1), BELOW);
        due("no list", x.list(3, 16), NONE);
        due("list -1", x.list(-1, 0), NONE);
        due("empty", x.list(2, 0), 1);
        promise = 35;
        due("put", x.put(0, 14, Long.MIN_VALUE), 1);
        due("put", x.put(0, 0, Long.MAX_VALUE), 1);
        due("beyond", x.put(0, 15, 1), PLACE);
        due("-1", x.put(0, -1, 1), PLACE);
        due("nothing", x.put(1, -1, 1), NOTHING);
        due("empty", x.put(2, 0, 1), PLACE);
        due("no list", x.put(3, 0, 1), NONE);
        promise = 36;
        due("look", x.look(0, 14), Long.MIN_VALUE);
        due("look", x.look(0, 0), Long.MAX_VALUE);
        due("0 at first", x.look(0, 7), 0);
        refused("beyond", x.look(0, 15), PLACE);
        refused("-1", x.look(0, -1), PLACE);
        refused("nothing", x.look(1, 0), NOTHING);
        refused("no list", x.look(-1, 0), NONE);
        due("made anew", x.list(0, 3), 1);
        due("0 again", x.look(0, 0), 0);
        refused("shorter", x.look(0, 3), PLACE);
        due("longer", x.list(0, 15), 1);
        due("0 again", x.look(0, 14), 0);
    }

    private static void judge() {
        promise = 37;
        QuotaCarousel x = four();
        due("nothing", x.judge(0, 0), NOTHING);
        x.list(0, 6);
        long[] row = {9, 3, 2, 4, 3, 1};
        for (int i = 0; i < row.length; i++) {
            x.put(0, i, row[i]);
        }
        due("agrees from 1 on", x.judge(0, 1), NOT);
        due("0 is otherwise", x.judge(0, 0), 0);
        due("0 is otherwise", x.judge(0, 2), 0);
        due("from the last 3 on: 0 agrees, 1 doesn't", x.judge(0, 4), 1);
        due("the last place", x.judge(0, 5), 0);
        x.put(0, 5, 3);
        due("one was looked at", x.judge(0, 5), 101);
        due("just beyond", x.judge(0, 6), 100);
        due("far beyond", x.judge(0, Integer.MAX_VALUE), 100);
        x.put(0, 3, 4L + (1L << 32));
        due("longs, not their low halves", x.judge(0, 1), 2);
        x.put(0, 3, 4);
        x.put(0, 4, 4);
        due("the last unit is otherwise", x.judge(0, 1), 3);
        x.list(1, 3);
        x.put(1, 0, 3);
        x.put(1, 1, 2);
        x.put(1, 2, 4);
        due("three were looked at", x.judge(1, 0), 103);
        due("-1", x.judge(0, -1), NONE);
        due("no list", x.judge(3, 0), NONE);
        due("NONE ahead of NOTHING", x.judge(2, -1), NONE);
        QuotaCarousel y = fresh();
        y.list(0, 0);
        due("no units", y.judge(0, 0), NOT);
        due("no units, beyond", y.judge(0, 7), NOT);
    }

    private static void imageAndUndo() {
        promise = 38;
        QuotaCarousel x = four();
        x.order(5);
        x.swap(0, 2);
        x.set(1, 1, 1);
        x.odds(0, 1, 1, 7);
        x.odds(0, 2, 2, 7);
        due("image", x.image(), 4);
        x.unit(1, 1, 0, 0);
        x.order(3);
        x.swap(1, 3);
        x.set(1, 1, 0);
        x.set(2, 0, 3);
        x.mark(3, 50);
        x.odds(0, 0, 1, 9);
        x.odds(0, 1, 1, 1);
        x.odds(0, 2, 1, 1);
        x.feed('o');
        x.list(0, 1);
        x.put(0, 0, 5);
        x.at(99);
        promise = 39;
        due("undo", x.undo(), 4);
        due("order", x.count(1), 5);
        due("refusing", x.count(3), 2);
        due("stratum", x.of(2, 0), 1);
        due("mark", x.of(3, 2), 0);
        due("first", x.odds(0, 0, 1, 2), 102);
        due("second", x.odds(0, 1, 1, 1), 107);
        due("next", x.odds(0, 2, 1, 1), 207);
        places("hand", x, 2, 1, 0, 3);
        due("the tape is no part of it", x.count(2), 1);
        due("lists are no part of it", x.look(0, 0), 5);
        due("the reason is no part of it", x.reason(0), NONE);
        due("once more", x.undo(), 4);
        due("the image stands", x.odds(0, 2, 1, 1), 207);
        QuotaCarousel y = fresh();
        due("none", y.undo(), STATE);
        due("of no units", y.image(), 0);
        y.unit(1, 1, 0, 0);
        due("back to no units", y.undo(), 0);
        due("units", y.count(0), 0);
        due("the number is free again", y.unit(1, 1, 0, 0), 0);
        due("by hand, too", y.order(5) == 0 ? y.at(0) : NONE, 0);
    }

    private static void count() {
        promise = 40;
        QuotaCarousel x = four();
        x.order(4);
        x.set(0, 1, 1);
        x.set(3, 1, 1);
        x.feed(1);
        due("units", x.count(0), 4);
        due("order", x.count(1), 4);
        due("bytes", x.count(2), 1);
        due("refusing", x.count(3), 9);
        due("4", x.count(4), NONE);
        due("-1", x.count(-1), NONE);
    }
}
