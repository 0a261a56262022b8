/** Units, their odds, strata, marks and orders: a test for each boundary that a sentence of the document names. */
public final class BoundariesOfUnitsTest extends Boundaries {
    public static void main(String[] args) {
        newObject();
        unitEdges();
        unitFull();
        oddsEdges();
        setEdges();
        markEdges();
        ofAndFractionEdges();
        orderEdges();
        likeOnes();
        changesThatMove();
        marksByStrata();
        atEdges();
        handEdges();
        end(1, 10);
    }

    private static void newObject() {
        says(1, "No UNITS");
        due("count(0)", fresh().count(0), 0);
        same("a new object", all(fresh()), all(fresh()));
        says(1, "no UNITS: no number is a UNIT's");
        no("odds", Boundaries::fresh, x -> x.odds(0, 0, 1, 1), NONE);
        no("set", Boundaries::fresh, x -> x.set(0, 0, 0), NONE);
        no("mark", Boundaries::fresh, x -> x.mark(0, 0), NONE);
        noLong("of", Boundaries::fresh, x -> x.of(0, 0), NONE);
        noLong("fraction", Boundaries::fresh, x -> x.fraction(0, 0, 0), NONE);
        no("at", Boundaries::fresh, x -> x.at(0), NONE);
        no("swap", Boundaries::fresh, x -> x.swap(0, 0), NONE);
        no("parts", Boundaries::fresh, x -> x.parts(0), NONE);
        noLong("joint", Boundaries::fresh, x -> x.joint(0, 0, 0), NONE);
        noLong("joints", Boundaries::fresh, x -> x.joints(0, 0), NONE);
        noLong("both", Boundaries::fresh, x -> x.both(0, 0, 0), NONE);
        noLong("kept", Boundaries::fresh, x -> x.kept(0, 0, 0), NONE);
        no("substitute", Boundaries::fresh, x -> x.substitute(0, 0, 0), NONE);
        noLong("finals", Boundaries::fresh, x -> x.finals(0, 0, 0), NONE);
        no("drawn", Boundaries::fresh, x -> x.drawn(0, 1, 1), NONE);
        says(1, "what one object holds is no other's");
        QuotaCarousel busy = busy(), other = fresh();
        due("units", other.count(0), 0);
        due("bytes", other.count(2), 0);
        due("undo", other.undo(), STATE);
        due("the reason of another", busy.reason(0), 0);
        due("the units of another", busy.count(0), 4);
    }

    private static void unitEdges() {
        says(2, "BELOW 1 .. 60, ABOVE of FIRST 1 .. BELOW; STRATUM 0 .. 3, MARK -99 .. 99");
        QuotaCarousel x = fresh();
        due("least", x.unit(1, 1, 0, -99), 0);
        due("least of 60", x.unit(1, 60, 3, 99), 1);
        due("most", x.unit(60, 60, 3, 0), 2);
        due("what stands", x.odds(2, 0, 1, 1), 6060);
        due("what stands", x.odds(1, 0, 1, 1), 160);
        due("stratum", x.of(2, 0), 3);
        due("mark", x.of(0, 2), -99);
        due("mark", x.of(1, 2), 99);
        for (int above : new int[] {0, -1, 8, MIN, MAX}) {
            no("above " + above + " by 7", Boundaries::busy, y -> y.unit(above, 7, 0, 0), BAD);
        }
        for (int below : new int[] {0, -1, 61, MIN, MAX}) {
            no("1 by " + below, Boundaries::busy, y -> y.unit(1, below, 0, 0), BAD);
        }
        no("-1 by -1", Boundaries::busy, y -> y.unit(-1, -1, 0, 0), BAD);
        no("61 by 61", Boundaries::busy, y -> y.unit(61, 61, 0, 0), BAD);
        for (int stratum : new int[] {-1, 4, MIN, MAX}) {
            no("stratum " + stratum, Boundaries::busy, y -> y.unit(1, 7, stratum, 0), BAD);
        }
        for (int mark : new int[] {-100, 100, MIN, MAX}) {
            no("mark " + mark, Boundaries::busy, y -> y.unit(1, 7, 0, mark), BAD);
        }
    }

    private static void unitFull() {
        says(2, "12 at most");
        QuotaCarousel x = fresh();
        for (int i = 0; i < 12; i++) {
            due("unit", x.unit(1, 1, 0, 0), i);
        }
        no("the thirteenth", Boundaries::quietFull, y -> y.unit(1, 1, 0, 0), FULL);
        no("BAD ahead of FULL", Boundaries::quietFull, y -> y.unit(0, 1, 0, 0), BAD);
        no("BAD ahead of FULL", Boundaries::quietFull, y -> y.unit(1, 1, 0, 100), BAD);
        says(2, "SECOND and NEXT 1 by 1 at first, not REFUSING at first, the last by HAND");
        x = fresh();
        x.unit(1, 2, 0, 0);
        x.image();
        x.unit(1, 2, 0, 0);
        x.odds(1, 1, 0, 9);
        x.odds(1, 2, 0, 9);
        x.set(1, 1, 1);
        x.order(5);
        x.swap(0, 1);
        x.undo();
        due("a unit by a number that was another's", x.unit(1, 2, 0, 0), 1);
        due("second", x.odds(1, 1, 1, 1), 101);
        due("next", x.odds(1, 2, 1, 1), 101);
        due("refusing", x.of(1, 1), 0);
        x.order(5);
        due("the last", x.at(1), 1);
    }

    private static void oddsEdges() {
        says(3, "ABOVE 0 .. BELOW, of FIRST 1 at least; BELOW 1 .. 60");
        for (int r = 0; r < 3; r++) {
            int row = r, least = row == 0 ? 1 : 0;
            QuotaCarousel x = four();
            x.odds(3, row, 60, 60);
            due("most were", x.odds(3, row, least, 60), 6060);
            due("least of 60 were", x.odds(3, row, least, 1), 100 * least + 60);
            due("least of 1 were", x.odds(3, row, 1, 1), 100 * least + 1);
            for (int above : new int[] {least - 1, -1, 8, MIN, MAX}) {
                no(above + " by 7, row " + row, Boundaries::busy, y -> y.odds(3, row, above, 7), BAD);
            }
            for (int below : new int[] {0, -1, 61, MIN, MAX}) {
                no("1 by " + below + ", row " + row, Boundaries::busy, y -> y.odds(3, row, 1, below), BAD);
            }
            no("0 by 0, row " + row, Boundaries::busy, y -> y.odds(3, row, 0, 0), BAD);
            no("61 by 61, row " + row, Boundaries::busy, y -> y.odds(3, row, 61, 61), BAD);
        }
        says(3, "NONE: unit, row; BAD");
        for (int none : new int[] {-1, 4, 12, MIN, MAX}) {
            no("unit " + none, Boundaries::busy, y -> y.odds(none, 0, 0, 0), NONE);
        }
        for (int none : new int[] {-1, 3, MIN, MAX}) {
            no("row " + none, Boundaries::busy, y -> y.odds(0, none, 9, 1), NONE);
        }
        says(3, "a row of one UNIT becomes, and no other does");
        QuotaCarousel x = four();
        x.odds(1, 1, 2, 9);
        due("first of it", x.odds(1, 0, 1, 3), 103);
        due("next of it", x.odds(1, 2, 1, 1), 101);
        due("second of the one ahead", x.odds(0, 1, 1, 1), 101);
        due("second of the one behind", x.odds(2, 1, 1, 1), 101);
        due("second of it", x.odds(1, 1, 2, 9), 209);
    }

    private static void setEdges() {
        says(4, "STRATUM 0 .. 3");
        QuotaCarousel x = four();
        due("3", x.set(0, 0, 3), 0);
        due("0", x.set(0, 0, 0), 3);
        for (int v : new int[] {-1, 4, MIN, MAX}) {
            no("stratum " + v, Boundaries::busy, y -> y.set(0, 0, v), BAD);
        }
        says(4, "REFUSING 0, 1");
        due("1", x.set(0, 1, 1), 0);
        due("1 again", x.set(0, 1, 1), 1);
        due("0", x.set(0, 1, 0), 1);
        due("0 again", x.set(0, 1, 0), 0);
        for (int v : new int[] {-1, 2, MIN, MAX}) {
            no("refusing " + v, Boundaries::busy, y -> y.set(0, 1, v), BAD);
        }
        says(4, "NONE: unit, what; BAD");
        for (int none : new int[] {-1, 4, 12, MIN, MAX}) {
            no("unit " + none, Boundaries::busy, y -> y.set(none, 0, 9), NONE);
        }
        for (int none : new int[] {-1, 2, MIN, MAX}) {
            no("what " + none, Boundaries::busy, y -> y.set(0, none, 9), NONE);
        }
        says(4, "the last of twelve");
        x = twelve(1, 1);
        due("refusing", x.set(11, 1, 1), 0);
        due("bits", x.count(3), 1 << 11);
    }

    private static void markEdges() {
        says(5, "MARK -99 .. 99");
        QuotaCarousel x = four();
        due("least", x.mark(3, -99), 1);
        due("it stands", x.of(3, 2), -99);
        due("most", x.mark(3, 99), 1);
        due("it stands", x.of(3, 2), 99);
        due("the same again", x.mark(3, 99), 1);
        for (int v : new int[] {-100, 100, MIN, MAX}) {
            no("mark " + v, Boundaries::busy, y -> y.mark(3, v), BAD);
        }
        says(5, "NONE; BAD");
        for (int none : new int[] {-1, 4, 12, MIN, MAX}) {
            no("unit " + none, Boundaries::busy, y -> y.mark(none, 100), NONE);
        }
    }

    private static void ofAndFractionEdges() {
        says(6, "NONE: unit, what");
        for (int none : new int[] {-1, 4, 12, MIN, MAX}) {
            noLong("unit " + none, Boundaries::busy, y -> y.of(none, 0), NONE);
            noLong("what " + none, Boundaries::busy, y -> y.of(0, none), NONE);
        }
        says(6, "REFUSING: 1, or 0");
        due("refuses", busy().of(0, 1), 1);
        due("doesn't", busy().of(2, 1), 0);
        says(6, "its place in ORDER, the first and the last");
        QuotaCarousel x = twelve(1, 1);
        due("first", x.of(0, 3), 0);
        due("last", x.of(11, 3), 11);
        says(7, "in lowest terms");
        x = four();
        x.odds(0, 0, 60, 60);
        x.odds(0, 1, 0, 60);
        x.odds(0, 2, 36, 60);
        fraction("60 by 60", x.fraction(0, 0, 0), x.fraction(0, 0, 1), 1, 1);
        fraction("0 by 60", x.fraction(0, 1, 0), x.fraction(0, 1, 1), 0, 1);
        fraction("36 by 60", x.fraction(0, 2, 0), x.fraction(0, 2, 1), 3, 5);
        x.odds(0, 0, 59, 60);
        x.odds(0, 1, 0, 1);
        fraction("59 by 60", x.fraction(0, 0, 0), x.fraction(0, 0, 1), 59, 60);
        fraction("0 by 1", x.fraction(0, 1, 0), x.fraction(0, 1, 1), 0, 1);
        says(7, "NONE: unit, row; BAD: part");
        for (int none : new int[] {-1, 4, 12, MIN, MAX}) {
            noLong("unit " + none, Boundaries::busy, y -> y.fraction(none, 0, 2), NONE);
        }
        for (int none : new int[] {-1, 3, MIN, MAX}) {
            noLong("row " + none, Boundaries::busy, y -> y.fraction(0, none, 2), NONE);
        }
        for (int part : new int[] {-1, 2, MIN, MAX}) {
            noLong("part " + part, Boundaries::busy, y -> y.fraction(0, 0, part), BAD);
        }
    }

    private static void orderEdges() {
        says(8, "0 .. 5; 0 at first");
        QuotaCarousel x = four();
        due("the last", x.order(5), 0);
        due("the same", x.order(5), 5);
        due("the first", x.order(0), 5);
        for (int order : new int[] {-1, 6, MIN, MAX}) {
            no("order " + order, Boundaries::busy, y -> y.order(order), BAD);
        }
        says(8, "an ORDER of nobody");
        x = fresh();
        for (int order = 1; order < 6; order++) {
            due("order", x.order(order), order - 1);
        }
        due("nobody", x.at(0), NONE);
    }

    private static void likeOnes() {
        says(8, "of like ones by 1 to 4 the lesser number is first, whatever HAND is");
        QuotaCarousel x = fresh();
        for (int i = 0; i < 12; i++) {
            x.unit(1 + i % 5, 2 + 2 * (i % 5), 1, -3);
        }
        for (int i = 0; i < 6; i++) {
            x.swap(i, 11 - i);
        }
        for (int order = 0; order < 5; order++) {
            x.order(order);
            places("order " + order, x, 0, 1, 2, 3, 4, 5, 6, 7, 8, 9, 10, 11);
        }
        x.order(5);
        places("by hand", x, 11, 10, 9, 8, 7, 6, 5, 4, 3, 2, 1, 0);
        says(8, "1 by FIRST, the greatest first: the nearest odds");
        x = by(new int[] {57, 59}, new int[] {58, 60}, new int[] {1, 60}, new int[] {1, 59}, new int[] {60, 60},
            new int[] {59, 60}, new int[] {1, 1});
        x.order(1);
        places("by FIRST", x, 4, 6, 5, 1, 0, 3, 2);
    }

    /** Two units, of which the second goes ahead of the first by one change alone, and back again. */
    private static void changesThatMove() {
        says(8, "ORDER goes with what changes: FIRST");
        QuotaCarousel x = oneByEach(2, 2);
        x.order(1);
        x.odds(1, 0, 31, 60);
        places("greater by a sixtieth", x, 1, 0);
        x.odds(1, 0, 30, 60);
        places("like again", x, 0, 1);
        x.odds(0, 0, 29, 60);
        places("lesser by a sixtieth", x, 1, 0);
        says(8, "ORDER goes with what changes: not with SECOND, nor NEXT");
        x = oneByEach(2, 2);
        x.order(1);
        x.odds(0, 1, 0, 1);
        x.odds(0, 2, 0, 1);
        places("by FIRST alone", x, 0, 1);
        says(8, "ORDER goes with what changes: STRATA");
        for (int order = 2; order < 5; order += 2) {
            x = oneByEach(2, 2);
            x.order(order);
            x.set(0, 0, 1);
            places("greater by one", x, 1, 0);
            x.set(1, 0, 1);
            places("like again", x, 0, 1);
        }
        says(8, "ORDER goes with what changes: MARKS");
        x = oneByEach(2, 2);
        x.order(3);
        x.mark(1, -1);
        places("lesser by one", x, 1, 0);
        x.mark(0, -1);
        places("like again", x, 0, 1);
        x.order(4);
        x.mark(0, 0);
        places("greater by one, in 0", x, 1, 0);
        x.set(0, 0, 3);
        x.set(1, 0, 3);
        places("greater by one, in 3", x, 0, 1);
    }

    private static void marksByStrata() {
        says(8, "in 0 and 2 by MARKS, the least first, in 1 and 3 the greatest first");
        QuotaCarousel x = fresh();
        for (int stratum = 3; stratum >= 0; stratum--) {
            x.unit(1, 1, stratum, 0);
            x.unit(1, 1, stratum, 99);
            x.unit(1, 1, stratum, -99);
        }
        x.order(4);
        places("strata 0 1 2 3", x, 11, 9, 10, 7, 6, 8, 5, 3, 4, 1, 0, 2);
        x.order(3);
        places("by MARKS alone", x, 2, 5, 8, 11, 0, 3, 6, 9, 1, 4, 7, 10);
        x.order(2);
        places("by STRATA alone", x, 9, 10, 11, 6, 7, 8, 3, 4, 5, 0, 1, 2);
        says(8, "like MARKS of a STRATUM: the lesser number is first, there too");
        x = fresh();
        for (int i = 0; i < 8; i++) {
            x.unit(1, 1, 3 - i % 4, 5);
        }
        x.unit(1, 1, 1, 6);
        x.unit(1, 1, 0, 6);
        x.order(4);
        places("by STRATA and MARKS", x, 3, 7, 9, 8, 2, 6, 1, 5, 0, 4);
    }

    private static void atEdges() {
        says(9, "NONE: no such place");
        QuotaCarousel x = four();
        due("first", x.at(0), 0);
        due("last", x.at(3), 3);
        due("last of twelve", twelve(1, 1).at(11), 11);
        for (int place : new int[] {-1, 4, 12, MIN, MAX}) {
            no("at " + place, Boundaries::busy, y -> y.at(place), NONE);
        }
        no("of twelve", Boundaries::quietFull, y -> y.at(12), NONE);
    }

    private static void handEdges() {
        says(10, "by numbers at first; a UNIT that comes is the last");
        QuotaCarousel x = twelve(1, 1);
        x.order(5);
        places("at first", x, 0, 1, 2, 3, 4, 5, 6, 7, 8, 9, 10, 11);
        due("the first and the last", x.swap(0, 11), 11);
        due("and back from the other side", x.swap(11, 0), 11);
        places("as at first", x, 0, 1, 2, 3, 4, 5, 6, 7, 8, 9, 10, 11);
        x = four();
        x.swap(3, 0);
        x.unit(1, 1, 0, 0);
        x.order(5);
        places("the last", x, 3, 1, 2, 0, 4);
        says(10, "places of HAND, whatever ORDER is");
        x.order(1);
        due("the one at p then", x.swap(4, 0), 3);
        x.order(5);
        places("by hand", x, 4, 1, 2, 0, 3);
        says(10, "NONE: no such place; NOT: p is q");
        for (int place : new int[] {-1, 4, 12, MIN, MAX}) {
            no("p " + place, Boundaries::busy, y -> y.swap(place, 0), NONE);
            no("q " + place, Boundaries::busy, y -> y.swap(0, place), NONE);
            no("NONE ahead of NOT", Boundaries::busy, y -> y.swap(place, place), NONE);
        }
        no("the first", Boundaries::busy, y -> y.swap(0, 0), NOT);
        no("the last", Boundaries::busy, y -> y.swap(3, 3), NOT);
        due("one unit alone", oneByEach(1).swap(0, 0), NOT);
    }
}
