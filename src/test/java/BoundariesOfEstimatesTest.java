/** Estimates, their mean and how far they spread: a test for each boundary, most of all that of the longs. */
public final class BoundariesOfEstimatesTest extends Boundaries {
    public static void main(String[] args) {
        estimateEdges();
        estimatesJustInTheLongs();
        estimatesOutOfTheLongs();
        meanEdges();
        meansOutOfTheLongs();
        spreadEdges();
        spreadsOutOfTheLongs();
        end(19, 21);
    }

    private static void estimate(String what, QuotaCarousel x, int start, long above, long below) {
        fraction(what, x.estimate(start, 0), x.estimate(start, 1), above, below);
    }

    private static void estimateEdges() {
        says(19, "from 0 by 1 on");
        estimate("no UNITS", fresh(), 0, 0, 1);
        estimate("nobody chosen", marked(1, new int[] {1, 60, 99}), 59, 0, 1);
        estimate("mark 0", marked(1, new int[] {1, 60, 0}), 0, 0, 1);
        estimate("one and less one", marked(1, new int[] {1, 1, 1}, new int[] {1, 1, -1}), 0, 0, 1);
        says(19, "MARK times BELOW by ABOVE, in lowest terms");
        estimate("the most of one", marked(1, new int[] {1, 60, 99}), 0, 5940, 1);
        estimate("the least of one", marked(-1, new int[] {1, 60, 99}), 0, -5940, 1);
        estimate("-9 by 2", marked(1, new int[] {40, 60, -3}), 39, -9, 2);
        QuotaCarousel x = fresh();
        for (int i = 0; i < 12; i++) {
            x.unit(1, 1, 0, 99);
        }
        estimate("twelve", x, 0, 1188, 1);
        says(19, "BAD: part; OVER (ROW 0); BAD: start; OVER (else)");
        for (int part : new int[] {-1, 2, MIN, MAX}) {
            noLong("part " + part, Boundaries::overByFirst, y -> y.estimate(-1, part), BAD);
        }
        for (int start : new int[] {-1, 6, MIN, MAX}) {
            noLong("OVER ahead of start " + start, Boundaries::overByFirst, y -> y.estimate(start, 0), OVER);
            noLong("start " + start, Boundaries::busy, y -> y.estimate(start, 0), BAD);
        }
        Made over = () -> marked(1, AD);
        noLong("start 59 ahead of OVER", over, y -> y.estimate(59, 0), BAD);
        noLong("start -1 ahead of OVER", over, y -> y.estimate(-1, 1), BAD);
        noLong("part ahead of OVER", over, y -> y.estimate(0, 2), BAD);
    }

    /** The greatest of the four numbers is above 999 thousandths of 2 to the 63rd. */
    private static void estimatesJustInTheLongs() {
        for (int sign = -1; sign <= 1; sign += 2) {
            says(19, "a d that is just a long, times " + sign);
            estimate("estimate", marked(sign, by59(47, -96, 43, 49, 41, 67, 37, 59, 52, 48, 51, 87, 58, -59, 57, 20,
                55, -62, 53, 9, 49, 93, 47, -16)), 47, sign * 8723897815783533241L, 24611512497608190L);
            says(19, "c b that is just a long, times " + sign);
            estimate("estimate", marked(sign, by59(58, -1, 57, -1, 55, -2, 53, 1, 49, 2, 47, -1, 43, 1, 41, 2,
                37, -2, 52, 2, 51, -2, 58, 84)), 8, sign * 309387263788037023L, 3720344912429145L);
            says(19, "a d and c b that are just a long together, times " + sign);
            estimate("estimate", marked(sign, by59(55, 92, 53, 96, 49, 97, 47, 95, 43, 95, 41, 92, 37, 99, 52, 96,
                51, 98, 58, 93, 57, 97, 55, 92)), 52, sign * 167697403196605543L, 147238684983390L);
        }
    }

    private static final int[][] AD = by59(53, 92, 49, 95, 47, 98, 43, 91, 41, 93, 37, 92, 52, 95, 51, 97,
        58, 92, 57, 98, 55, 91);
    private static final int[][] CB = by59(58, -1, 57, 2, 55, 2, 53, -1, 49, 2, 47, -2, 43, 2, 41, -2,
        37, 2, 52, 2, 51, -2, 58, 83);
    private static final int[][] SUM = by59(49, 97, 47, 93, 43, 92, 41, 91, 37, 91, 52, 92, 51, 97,
        58, 91, 57, 92, 55, 91, 53, 93);

    /** Here one of the four numbers alone is no long, and nothing else tells. */
    private static void estimatesOutOfTheLongs() {
        for (int s = -1; s <= 1; s += 2) {
            int sign = s;
            for (int p = 0; p < 2; p++) {
                int part = p;
                says(19, "OVER: a d that is no long, times " + sign);
                noLong("estimate", () -> marked(sign, AD), x -> x.estimate(0, part), OVER);
                says(19, "OVER: c b that is no long, times " + sign);
                noLong("estimate", () -> marked(sign, CB), x -> x.estimate(0, part), OVER);
                says(19, "OVER: a d and c b that are no long together, times " + sign);
                noLong("estimate", () -> marked(sign, SUM), x -> x.estimate(0, part), OVER);
            }
        }
        says(19, "OVER of one START is none of another's");
        QuotaCarousel x = marked(1, CB);
        due("ten of them fit", x.estimate(11, 0), 8368364200758787L);
        due("eleven don't", x.estimate(10, 1), LONGS - OVER);
        due("ten fit again", x.estimate(11, 1), 3720344912429145L);
    }

    private static void mean(String what, QuotaCarousel x, long above, long below) {
        fraction(what, x.mean(0), x.mean(1), above, below);
    }

    private static void meanEdges() {
        says(20, "from 0 by 1 on");
        mean("no UNITS", fresh(), 0, 1);
        mean("marks 0", twelve(1, 60), 0, 1);
        mean("one and less one", marked(1, new int[] {1, 60, 1}, new int[] {59, 60, -1}), 0, 1);
        says(20, "right in the mean: MARKS of all together");
        mean("the most", marked(1, by59(1, 99, 1, 99, 1, 99, 1, 99, 1, 99, 1, 99, 1, 99, 1, 99, 1, 99, 1, 99,
            1, 99, 1, 99)), 1188, 1);
        mean("the least", marked(-1, by59(1, 99, 59, 99)), -198, 1);
        says(20, "numbers that are just longs");
        for (int sign = -1; sign <= 1; sign += 2) {
            mean("a d", marked(sign, new int[] {28, 50, 32}, new int[] {49, 55, 47}, new int[] {41, 60, -63},
                new int[] {35, 49, -2}, new int[] {32, 49, 23}), sign * 37, 1);
            mean("c b", marked(sign, new int[] {52, 57, 44}, new int[] {49, 60, 71}, new int[] {44, 58, -9},
                new int[] {60, 60, -69}, new int[] {35, 57, -81}, new int[] {44, 60, 53}, new int[] {36, 57, -81},
                new int[] {54, 60, 42}), sign * -30, 1);
            mean("a d and c b", marked(sign, new int[] {41, 60, 1}, new int[] {58, 60, 1}, new int[] {57, 60, 1},
                new int[] {39, 60, 1}, new int[] {54, 60, -1}, new int[] {59, 60, -1}, new int[] {40, 60, 0},
                new int[] {46, 60, 0}, new int[] {51, 60, 1}), sign * 3, 1);
            mean("b d", marked(sign, new int[] {43, 55, 2}, new int[] {36, 48, -2}, new int[] {51, 54, 1},
                new int[] {52, 56, -1}, new int[] {48, 48, 2}, new int[] {52, 54, -2}, new int[] {43, 49, 1},
                new int[] {38, 54, -2}, new int[] {52, 54, 1}, new int[] {52, 60, -1}), -sign, 1);
        }
        says(20, "BAD: part; OVER");
        for (int part : new int[] {-1, 2, MIN, MAX}) {
            noLong("part " + part, Boundaries::overByFirst, x -> x.mean(part), BAD);
            noLong("part " + part, () -> marked(1, AD), x -> x.mean(part), BAD);
        }
        noLong("OVER of ROW 0", Boundaries::overByFirst, x -> x.mean(0), OVER);
        noLong("OVER of ROW 0", Boundaries::overByFirst, x -> x.mean(1), OVER);
    }

    private static void noMean(String what, int[]... rows) {
        for (int s = -1; s <= 1; s += 2) {
            int sign = s;
            noLong(what, () -> marked(sign, rows), x -> x.mean(0), OVER);
            noLong(what, () -> marked(sign, rows), x -> x.mean(1), OVER);
        }
    }

    private static void meansOutOfTheLongs() {
        says(20, "OVER: one of the four numbers alone is no long");
        noMean("a d", new int[] {34, 57, 93}, new int[] {46, 60, 98}, new int[] {47, 58, 96}, new int[] {48, 59, 96});
        noMean("c b", new int[] {51, 58, -63}, new int[] {47, 57, 23}, new int[] {11, 59, -46}, new int[] {34, 60, 37},
            new int[] {52, 60, 84});
        noMean("a d and c b", new int[] {17, 59, -1}, new int[] {45, 58, 1}, new int[] {25, 57, 2},
            new int[] {47, 57, 81});
        noMean("b d", new int[] {33, 49, 1}, new int[] {47, 54, -1}, new int[] {49, 55, 1}, new int[] {29, 52, -1});
        says(20, "OVER: an ESTIMATE is");
        noMean("a d of it", AD);
        noMean("c b of it", CB);
        noMean("a d and c b of it", SUM);
        says(20, "OVER: an ESTIMATE TIMES its part of the STARTS is");
        noMean("a c", new int[] {56, 57, 95}, new int[] {54, 59, 93}, new int[] {57, 60, 99}, new int[] {43, 60, 93},
            new int[] {59, 60, 91}, new int[] {41, 57, 98}, new int[] {53, 58, 97});
        noMean("b d", new int[] {29, 52, 1}, new int[] {42, 52, -2}, new int[] {25, 48, 1}, new int[] {39, 50, -1},
            new int[] {55, 56, 2}, new int[] {7, 54, -1}, new int[] {41, 60, 1}, new int[] {38, 49, -2},
            new int[] {46, 48, 2}, new int[] {53, 55, -2});
        says(20, "OVER goes as it came");
        QuotaCarousel x = marked(1, AD);
        due("over", x.mean(0), LONGS - OVER);
        for (int unit = 0; unit < 11; unit++) {
            x.odds(unit, 0, 59, 59);
        }
        mean("all for sure", x, 1034, 1);
    }

    private static void spread(String what, QuotaCarousel x, long above, long below) {
        fraction(what, x.spread(0), x.spread(1), above, below);
    }

    private static void spreadEdges() {
        says(21, "from 0 by 1 on: none, if all are sure");
        spread("no UNITS", fresh(), 0, 1);
        spread("marks 0", twelve(1, 60), 0, 1);
        spread("all for sure", marked(1, by59(59, 99, 59, -7)), 0, 1);
        says(21, "D TIMES D, D being ESTIMATE and MARKS with the other sign");
        spread("5940 less 99 for one of 60, -99 for 59", marked(1, new int[] {1, 60, 99}), 578259, 1);
        spread("the same with the other sign", marked(-1, new int[] {1, 60, 99}), 578259, 1);
        spread("60 by 59 less 1, and -1", marked(1, new int[] {59, 60, 1}), 1, 59);
        says(21, "numbers that are just longs");
        for (int sign = -1; sign <= 1; sign += 2) {
            spread("a d and c b", marked(sign, new int[] {45, 48, 2}, new int[] {26, 45, -1}, new int[] {41, 54, 2}),
                51461, 15990);
            spread("b d", marked(sign, new int[] {38, 60, -1}, new int[] {58, 60, 1}, new int[] {56, 60, -1},
                new int[] {56, 60, 0}, new int[] {43, 60, 0}, new int[] {45, 60, 1}), 25693, 23142);
        }
        says(21, "BAD: part; OVER");
        for (int part : new int[] {-1, 2, MIN, MAX}) {
            noLong("part " + part, Boundaries::overByFirst, x -> x.spread(part), BAD);
            noLong("part " + part, () -> marked(1, AD), x -> x.spread(part), BAD);
        }
        noLong("OVER of ROW 0", Boundaries::overByFirst, x -> x.spread(0), OVER);
        noLong("OVER of ROW 0", Boundaries::overByFirst, x -> x.spread(1), OVER);
    }

    private static void noSpread(String what, int[]... rows) {
        for (int s = -1; s <= 1; s += 2) {
            int sign = s;
            noLong(what, () -> marked(sign, rows), x -> x.spread(0), OVER);
            noLong(what, () -> marked(sign, rows), x -> x.spread(1), OVER);
        }
    }

    private static void spreadsOutOfTheLongs() {
        says(21, "OVER: one of the four numbers alone is no long");
        noSpread("a d", by59(44, 0, 43, -1, 46, 35));
        noSpread("c b", by59(53, 98, 31, 99, 34, 97));
        noSpread("a d and c b", new int[] {24, 49, 91}, new int[] {33, 52, 97}, new int[] {33, 50, 92});
        noSpread("b d", by59(52, 1, 47, 1, 57, -1));
        says(21, "OVER: D TIMES D is, or that TIMES its part of the STARTS");
        noSpread("a c of D", new int[] {39, 59, 96}, new int[] {41, 58, 91}, new int[] {46, 57, 99},
            new int[] {53, 59, 92}, new int[] {58, 59, 96});
        noSpread("b d of D", new int[] {41, 59, 1}, new int[] {53, 60, -2}, new int[] {51, 58, 1},
            new int[] {58, 59, -1}, new int[] {50, 58, 1}, new int[] {43, 59, -1});
        noSpread("a c", new int[] {50, 52, 91}, new int[] {43, 56, 94}, new int[] {53, 60, 94},
            new int[] {38, 50, 99});
        noSpread("b d", new int[] {49, 59, 1}, new int[] {47, 60, -1}, new int[] {46, 58, 1}, new int[] {52, 57, 1});
        says(21, "OVER: an ESTIMATE is");
        noSpread("a d of it", AD);
        noSpread("c b of it", CB);
        says(21, "OVER, where MEAN isn't");
        mean("mean", marked(1, by59(53, 98, 31, 99, 34, 97)), 294, 1);
    }
}
