/** COMMON, starts, runs, joint odds and strata: a test for each boundary that a sentence of the document names. */
public final class BoundariesOfTheWheelTest extends Boundaries {
    public static void main(String[] args) {
        commonOfNobody();
        commonLargest();
        commonOfTwoRows();
        allLargest();
        partsEdges();
        sizeEdges();
        chosenEdges();
        roundTheWheel();
        runEdges();
        runsNotJoined();
        jointEdges();
        jointsEdges();
        fairEdges();
        end(11, 18);
    }

    private static void commonOfNobody() {
        says(11, "1: no UNITS");
        for (int row = 0; row < 3; row++) {
            due("row " + row, fresh().common(row), 1);
        }
        says(11, "the least number by which all BELOWS go, one whose ABOVE is 0, too");
        QuotaCarousel x = oneByEach(1);
        due("1", x.common(0), 1);
        x.odds(0, 0, 60, 60);
        due("60", x.common(0), 60);
        x.odds(0, 1, 0, 60);
        due("0 by 60", x.common(1), 60);
        x.odds(0, 0, 1, 48);
        due("0 by 60 of SECOND isn't in it", x.common(2), 48);
        x.odds(0, 2, 0, 60);
        due("48 and 60", x.common(2), 240);
        due("FIRST alone", x.common(0), 48);
        due("4, 6 and 10", oneByEach(4, 6, 10).common(0), 60);
        due("54, 56 and 50", oneByEach(54, 56, 50).common(0), 37800);
        says(11, "NONE; OVER");
        for (int row : new int[] {-1, 3, MIN, MAX}) {
            no("row " + row, Boundaries::busy, y -> y.common(row), NONE);
            no("NONE ahead of OVER", Boundaries::overByFirst, y -> y.common(row), NONE);
        }
        no("row 0", Boundaries::overByFirst, y -> y.common(0), OVER);
        no("row 2 by FIRST", Boundaries::overByFirst, y -> y.common(2), OVER);
        no("row 1", Boundaries::overBySecond, y -> y.common(1), OVER);
        no("row 2 by NEXT", Boundaries::overByNext, y -> y.common(2), OVER);
        due("row 1 beside it", overByFirst().common(1), 10);
        due("row 0 beside it", overBySecond().common(0), 6);
        due("row 2 beside it", overBySecond().common(2), 6);
        due("row 0 beside it", overByNext().common(0), 6);
    }

    /** No least common number of BELOWS lies between these two, on whose either side 2147483647 is. */
    private static void commonLargest() {
        int[] largest = {26, 35, 23, 37, 47, 59}, larger = {56, 33, 25, 23, 43, 47};
        says(11, "OVER: COMMON is above 2147483647");
        for (int row = 0; row < 3; row++) {
            due("2147438930, row " + row, byRow(row, largest).common(row), 2147438930);
            due("2147514600, row " + row, byRow(row, larger).common(row), OVER);
            due("no long either, row " + row,
                byRow(row, 59, 58, 57, 55, 53, 49, 47, 43, 41, 37, 31, 23).common(row), OVER);
        }
        says(11, "OVER no more, as BELOWS become others");
        QuotaCarousel x = oneByEach(larger);
        due("over", x.common(0), OVER);
        x.odds(5, 0, 1, 43);
        due("2147514600 by 47", x.common(0), 45691800);
    }

    private static void commonOfTwoRows() {
        says(11, "FIRST and NEXT together: OVER, where neither is by itself");
        QuotaCarousel x = oneByEach(59, 53, 47);
        x.odds(0, 2, 0, 43);
        x.odds(1, 2, 0, 41);
        due("146969 times 1763", x.common(2), 259106347);
        x.odds(2, 2, 0, 8);
        due("8 times that", x.common(2), 2072850776);
        x.odds(2, 2, 0, 9);
        due("9 times that", x.common(2), OVER);
        due("FIRST", x.common(0), 146969);
        due("SECOND", x.common(1), 1);
    }

    private static void allLargest() {
        says(11, "OVER: ALL is above 2147483647");
        for (int row = 0; row < 3; row++) {
            due("2147483647, row " + row, allAtTheEdge(row).common(row), 309663683);
            due("2147483648, row " + row, allBeyond(row).common(row), OVER);
        }
        says(11, "by ROW 2: ALL of FIRST, or of NEXT");
        due("FIRST 2147483647", allAtTheEdge(0).common(2), 309663683);
        due("FIRST 2147483648", allBeyond(0).common(2), OVER);
        QuotaCarousel x = allBeyond(2);
        due("FIRST isn't by itself", x.common(0), 59);
        x = byRow(1, 59, 53, 47, 43, 8);
        for (int i = 0; i < 4; i++) {
            x.odds(i, 2, 0, PRIMES[i]);
        }
        due("FIRST 5 times 6319667", x.common(2), 6319667);
        x.odds(4, 2, 0, 59);
        for (int i = 5; i < 12; i++) {
            x.unit(1, 1, 0, 0);
        }
        due("both far below", x.common(2), 6319667);
        x.odds(4, 2, 0, 29);
        due("12 times 183270343 of FIRST", x.common(2), OVER);
        due("by ROW 0 there are 12 by 1", x.common(0), 1);
    }

    private static void partsEdges() {
        says(12, "ABOVE times (COMMON by BELOW)");
        due("one by one", oneByEach(1).parts(0), 1);
        due("full", by(new int[] {60, 60}).parts(0), 60);
        QuotaCarousel x = byRow(0, 26, 35, 23, 37, 47, 59);
        due("the most", x.parts(2), 93366910);
        due("the least", x.parts(5), 36397270);
        says(12, "by COMMON of FIRST, whatever the other odds are");
        x = four();
        x.odds(1, 1, 1, 59);
        x.odds(1, 2, 1, 59);
        due("3 of 6", x.parts(0), 3);
        says(12, "NONE; OVER");
        for (int none : new int[] {-1, 4, 12, MIN, MAX}) {
            no("unit " + none, Boundaries::busy, y -> y.parts(none), NONE);
        }
        no("NONE ahead of OVER", Boundaries::overByFirst, y -> y.parts(10), NONE);
        no("OVER", Boundaries::overByFirst, y -> y.parts(9), OVER);
        due("OVER of ROW 2 is none of it", overByNext().parts(0), 3);
        due("OVER by ALL", allBeyond(0).parts(0), OVER);
    }

    private static void sizeEdges() {
        says(13, "no UNITS");
        due("least", fresh().size(0), 0);
        due("most", fresh().size(1), 0);
        says(13, "ALL by COMMON: cut, and rounded up");
        QuotaCarousel x = oneByEach(60);
        due("1 by 60, least", x.size(0), 0);
        due("1 by 60, most", x.size(1), 1);
        x.odds(0, 0, 60, 60);
        due("1, least", x.size(0), 1);
        due("1, most", x.size(1), 1);
        x.unit(1, 60, 0, 0);
        due("61 by 60, least", x.size(0), 1);
        due("61 by 60, most", x.size(1), 2);
        x.odds(1, 0, 59, 60);
        due("119 by 60, least", x.size(0), 1);
        due("119 by 60, most", x.size(1), 2);
        due("twelve, least", twelve(1, 1).size(0), 12);
        due("twelve, most", twelve(60, 60).size(1), 12);
        due("ALL 2147483647, least", allAtTheEdge(0).size(0), 6);
        due("ALL 2147483647, most", allAtTheEdge(0).size(1), 7);
        says(13, "NONE: what; OVER");
        for (int what : new int[] {-1, 2, MIN, MAX}) {
            no("what " + what, Boundaries::overByFirst, y -> y.size(what), NONE);
        }
        no("OVER", Boundaries::overByFirst, y -> y.size(0), OVER);
        no("OVER", Boundaries::overByFirst, y -> y.size(1), OVER);
        due("OVER by ALL", allBeyond(0).size(1), OVER);
        due("OVER of NEXT is none of it", overByNext().size(1), 3);
    }

    private static void chosenEdges() {
        says(14, "no UNITS: one START, 0, which CHOOSES nobody");
        due("0", fresh().chosen(0), 0);
        no("1", Boundaries::fresh, y -> y.chosen(1), BAD);
        no("-1", Boundaries::fresh, y -> y.chosen(-1), BAD);
        says(14, "places 0 to COMMON less 1");
        due("the first", four().chosen(0), 5);
        due("the last", four().chosen(5), 12);
        for (int start : new int[] {-1, 6, MIN, MAX}) {
            no("start " + start, Boundaries::busy, y -> y.chosen(start), BAD);
            no("OVER ahead of BAD", Boundaries::overByFirst, y -> y.chosen(start), OVER);
        }
        due("by COMMON of FIRST alone", overByNext().chosen(6), BAD);
        says(14, "a wheel of one place");
        due("twelve", twelve(1, 1).chosen(0), 4095);
        due("no second place", twelve(1, 1).chosen(1), BAD);
        says(14, "a wheel of 2147438930 places");
        QuotaCarousel x = byRow(0, 26, 35, 23, 37, 47, 59);
        due("the first", x.chosen(0), 1);
        due("the last of its ARC", x.chosen(2147438930 / 26 - 1), 1);
        due("the first behind it", x.chosen(2147438930 / 26), 2);
        due("the last of all", x.chosen(2147438929), 0);
        due("beyond", x.chosen(2147438930), BAD);
        due("far beyond", x.chosen(MAX), BAD);
    }

    private static void roundTheWheel() {
        says(14, "round and round: each other ARC from where the one ahead of it ends");
        QuotaCarousel x = by(new int[] {3, 4}, new int[] {3, 4}, new int[] {3, 4}, new int[] {3, 4});
        int[] due = {7, 11, 13, 14};
        for (int start = 0; start < 4; start++) {
            due("3 by 4, start " + start, x.chosen(start), due[start]);
        }
        says(14, "an ARC that ends with the last place, and one that begins with the first again");
        x = oneByEach(2, 2, 2);
        due("0 and 2", x.chosen(0), 5);
        due("1", x.chosen(1), 2);
        says(14, "a full ARC, from any place on");
        x = by(new int[] {1, 4}, new int[] {4, 4}, new int[] {1, 4});
        int[] full = {3, 6, 2, 2};
        for (int start = 0; start < 4; start++) {
            due("full behind 1 by 4, start " + start, x.chosen(start), full[start]);
        }
        says(14, "in ORDER each UNIT has an ARC");
        x = oneByEach(4, 2, 4);
        x.order(5);
        x.swap(0, 2);
        int[] byHand = {4, 2, 2, 1};
        for (int start = 0; start < 4; start++) {
            due("2 1 0, start " + start, x.chosen(start), byHand[start]);
        }
    }

    private static void run(QuotaCarousel x, int k, int first, int starts, int who) {
        due("first of " + k, x.run(k, 0), first);
        due("starts of " + k, x.run(k, 1), starts);
        due("who of " + k, x.run(k, 2), who);
    }

    private static void runEdges() {
        says(15, "no UNITS: one START");
        due("one run", fresh().run(-1, 0), 1);
        run(fresh(), 0, 0, 1, 0);
        no("no second", Boundaries::fresh, y -> y.run(1, 0), NOT);
        says(15, "as many as there can be: twelve ends, and none of them at 0");
        QuotaCarousel x = twelve(1, 60);
        due("thirteen", x.run(-1, 0), 13);
        for (int k = 0; k < 12; k++) {
            run(x, k, k, 1, 1 << k);
        }
        run(x, 12, 12, 48, 0);
        due("no fourteenth", x.run(13, 0), NOT);
        says(15, "one RUN, if all choose the same ones");
        due("twelve of 60 by 60", twelve(60, 60).run(-1, 0), 1);
        run(twelve(60, 60), 0, 0, 60, 4095);
        says(15, "a wheel of 2147438930 places");
        x = byRow(0, 26, 35, 23, 37, 47, 59);
        due("seven", x.run(-1, 0), 7);
        run(x, 0, 0, 82593805, 1);
        run(x, 6, 377442463, 1769996467, 0);
        says(15, "NONE: k below -1, what (by k -1, too); OVER; NOT: there are not so many");
        for (int k : new int[] {3, 12, 13, MAX}) {
            no("k " + k, Boundaries::busy, y -> y.run(k, 0), NOT);
            no("OVER ahead of NOT", Boundaries::overByFirst, y -> y.run(k, 2), OVER);
            no("what -1", Boundaries::overByFirst, y -> y.run(k, -1), NONE);
        }
        for (int k : new int[] {-2, MIN}) {
            no("k " + k, Boundaries::overByFirst, y -> y.run(k, 0), NONE);
        }
        for (int what : new int[] {-1, 3, MIN, MAX}) {
            no("what " + what, Boundaries::overByFirst, y -> y.run(-1, what), NONE);
            no("what " + what, Boundaries::busy, y -> y.run(0, what), NONE);
        }
        no("OVER", Boundaries::overByFirst, y -> y.run(-1, 1), OVER);
        due("how many, by any what", four().run(-1, 2), 3);
    }

    /** The first ARC that isn't full begins at 0: so the last RUN never chooses just those of the first. */
    private static void runsNotJoined() {
        says(15, "one behind the other: those that choose the same ones are one RUN, round and round or not");
        QuotaCarousel x = by(new int[] {1, 4}, new int[] {1, 2}, new int[] {1, 4}, new int[] {1, 4});
        // 0 on 0, 1 on 1 2, 2 on 3, 3 on 0 again.
        due("how many", x.run(-1, 0), 3);
        run(x, 0, 0, 1, 9);
        run(x, 1, 1, 2, 2);
        run(x, 2, 3, 1, 4);
        x = by(new int[] {2, 4}, new int[] {3, 4}, new int[] {3, 4});
        // 0 on 0 1, 1 on 2 3 0, 2 on 1 2 3.
        due("how many", x.run(-1, 0), 3);
        run(x, 0, 0, 1, 3);
        run(x, 1, 1, 1, 5);
        run(x, 2, 2, 2, 6);
        says(15, "a full ARC has no edge");
        x = by(new int[] {4, 4}, new int[] {3, 4}, new int[] {4, 4});
        due("{0 1 2} and {0 2}", x.run(-1, 0), 2);
        run(x, 0, 0, 3, 7);
        run(x, 1, 3, 1, 5);
        x = by(new int[] {30, 60}, new int[] {60, 60}, new int[] {30, 60});
        due("a full one from 30 on", x.run(-1, 0), 2);
        run(x, 0, 0, 30, 3);
        run(x, 1, 30, 30, 6);
    }

    private static void jointEdges() {
        says(16, "one twice, none, all");
        QuotaCarousel x = four();
        fraction("0 twice", x.joint(0, 0, 0), x.joint(0, 0, 1), 1, 2);
        fraction("0 and 3", x.joint(0, 3, 0), x.joint(3, 0, 1), 0, 1);
        x = twelve(60, 60);
        fraction("full ones", x.joint(0, 11, 0), x.joint(11, 0, 1), 1, 1);
        says(16, "round and round: ARCS that meet at both ends");
        x = by(new int[] {59, 60}, new int[] {59, 60}, new int[] {1, 60});
        fraction("59 by 60 both", x.joint(0, 1, 0), x.joint(1, 0, 1), 29, 30);
        fraction("58 is in the first alone", x.joint(0, 2, 0), x.joint(2, 0, 1), 1, 60);
        fraction("and not in the second", x.joint(1, 2, 0), x.joint(2, 1, 1), 0, 1);
        says(16, "by 2147438930 places");
        x = byRow(0, 26, 35, 23, 37, 47, 59);
        fraction("2 twice", x.joint(2, 2, 0), x.joint(2, 2, 1), 1, 23);
        says(16, "NONE: units; BAD: part; OVER");
        for (int none : new int[] {-1, 10, 12, MIN, MAX}) {
            noLong("one " + none, Boundaries::overByFirst, y -> y.joint(none, 0, 2), NONE);
            noLong("other " + none, Boundaries::overByFirst, y -> y.joint(0, none, 2), NONE);
        }
        for (int part : new int[] {-1, 2, MIN, MAX}) {
            noLong("part " + part, Boundaries::overByFirst, y -> y.joint(0, 9, part), BAD);
        }
        noLong("OVER", Boundaries::overByFirst, y -> y.joint(0, 0, 0), OVER);
        noLong("OVER", Boundaries::overByFirst, y -> y.joint(0, 9, 1), OVER);
    }

    private static void jointsEdges() {
        says(17, "itself, too");
        fraction("one alone", oneByEach(7).joints(0, 0), oneByEach(7).joints(0, 1), 1, 7);
        QuotaCarousel x = twelve(1, 1);
        fraction("all twelve", x.joints(11, 0), x.joints(11, 1), 12, 1);
        x = twelve(1, 60);
        fraction("with nobody else", x.joints(11, 0), x.joints(11, 1), 1, 60);
        says(17, "ALL 2147483647");
        x = allAtTheEdge(0);
        fraction("a full one with all", x.joints(8, 0), x.joints(8, 1), 2147483647, 309663683);
        says(17, "NONE; BAD: part; OVER");
        for (int none : new int[] {-1, 10, 12, MIN, MAX}) {
            noLong("unit " + none, Boundaries::overByFirst, y -> y.joints(none, 2), NONE);
        }
        for (int part : new int[] {-1, 2, MIN, MAX}) {
            noLong("part " + part, Boundaries::overByFirst, y -> y.joints(9, part), BAD);
        }
        noLong("OVER", Boundaries::overByFirst, y -> y.joints(9, 1), OVER);
    }

    private static void fairEdges() {
        says(18, "a STRATUM of nobody");
        for (int stratum = 0; stratum < 4; stratum++) {
            due("no UNITS, " + stratum, fresh().fair(stratum), 1);
        }
        due("nobody of 3", four().fair(3), 1);
        says(18, "as many as PARTS by COMMON, where that goes even");
        QuotaCarousel x = oneByEach(2, 2, 2, 2);
        x.set(1, 0, 3);
        x.set(3, 0, 3);
        // Start 0 chooses 0 and 2, start 1 chooses 1 and 3: two of a stratum, or none.
        due("two or none of 0, for one", x.fair(0), 0);
        due("none or two of 3, for one", x.fair(3), 0);
        x.order(2);
        due("one each by strata", x.fair(0), 1);
        due("one each by strata", x.fair(3), 1);
        due("twelve of one", twelve(60, 60).fair(0), 1);
        due("twelve by twelfths", twelve(1, 12).fair(0), 1);
        due("twelve by sixtieths, one or none", twelve(1, 60).fair(0), 1);
        due("twelve of 59 by 60, eleven or twelve", twelve(59, 60).fair(0), 1);
        says(18, "cut, or rounded up, and no other");
        QuotaCarousel y = by(new int[] {2, 3}, new int[] {1, 3}, new int[] {2, 3});
        y.set(1, 0, 1);
        // 0 on 0 1, 1 on 2, 2 on 0 1: two or none, for 4 by 3.
        due("none is below the cut", y.fair(0), 0);
        due("one or none, for 1 by 3", y.fair(1), 1);
        y = by(new int[] {1, 3}, new int[] {1, 3}, new int[] {2, 3}, new int[] {1, 3});
        y.set(1, 0, 1);
        y.set(2, 0, 1);
        // 0 on 0, 3 on 1, for 2 by 3; 1 on 1, 2 on 2 0, for 1.
        due("one, one, none", y.fair(0), 1);
        due("one each", y.fair(1), 1);
        y = by(new int[] {1, 3}, new int[] {2, 3}, new int[] {1, 3});
        y.set(1, 0, 1);
        due("two is above one, rounded up from 2 by 3", y.fair(0), 0);
        says(18, "NONE: stratum; OVER");
        for (int stratum : new int[] {-1, 4, MIN, MAX}) {
            no("stratum " + stratum, Boundaries::overByFirst, z -> z.fair(stratum), NONE);
        }
        no("OVER", Boundaries::overByFirst, z -> z.fair(0), OVER);
        no("OVER, of nobody", Boundaries::overByFirst, z -> z.fair(2), OVER);
    }
}
