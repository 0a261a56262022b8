/** Texts, reasons, lists, the image: a test for each boundary that a sentence of the document names. */
public final class BoundariesOfLettersTest extends Boundaries {
    public static void main(String[] args) {
        feedEdges();
        numbersOfATape();
        textsThatEndTooEarly();
        bytesThatDontGoOn();
        tellsEdges();
        clausesThatAreRefused();
        textsThatAreOver();
        reasonEdges();
        listEdges();
        putAndLookEdges();
        judgeEdges();
        imageEdges();
        undoEdges();
        countEdges();
        askedChangesNothing();
        end(31, 40);
    }

    private static void feedEdges() {
        says(31, "a byte 1 .. 127");
        QuotaCarousel x = fresh();
        due("1", x.feed(1), 1);
        due("127", x.feed(127), 2);
        for (int letter : new int[] {0, -1, 128, 256 + 'o', MIN, MAX}) {
            no("byte " + letter, Boundaries::busy, y -> y.feed(letter), BAD);
        }
        says(31, "THE TAPE holds 0 .. 120 bytes");
        x = fresh();
        due("none at first", x.count(2), 0);
        for (int i = 1; i <= 120; i++) {
            due("byte " + i, x.feed('o'), i);
        }
        no("the 121st", BoundariesOfLettersTest::fullTape, y -> y.feed('o'), FULL);
        no("BAD ahead of FULL", BoundariesOfLettersTest::fullTape, y -> y.feed(128), BAD);
        due("told", x.tells(), -101);
        due("room again", x.feed('o'), 1);
    }

    private static QuotaCarousel fullTape() {
        QuotaCarousel x = quiet();
        feed(x, "o1;".repeat(39) + "o2;");
        return x;
    }

    private static final String[] TEXTS = {"u1/2,3,4", "u01/02,0,-99", "u12/60,1,-7", "u60/60,2,99", "s0,0/1",
        "s01,09/10", "n3,4/5", "n02,60/60", "o0", "o5", "r0", "r03", "x0,1", "x03,02", "o1;r1", "u1/1,0,0;s4,1/2;o2"};

    private static void numbersOfATape() {
        says(32, "A, B: 1 or 2 digits; S: a digit; M: perhaps -, and 1 or 2 digits");
        String[] texts = {"u1/2,3,4", "u01/02,0,-99", "u60/60,1,99", "u9/9,2,-0", "u09/10,3,09", "u1/60,0,-9",
            "u7/7,0,00", "u07/08,1,-01"};
        int[][] due = {{1, 2, 3, 4}, {1, 2, 0, -99}, {60, 60, 1, 99}, {9, 9, 2, 0}, {9, 10, 3, 9}, {1, 60, 0, -9},
            {7, 7, 0, 0}, {7, 8, 1, -1}};
        for (int i = 0; i < texts.length; i++) {
            QuotaCarousel x = fresh();
            due(texts[i], tell(x, texts[i]), 1);
            due(texts[i] + ", mark", x.of(0, 2), due[i][3]);
            due(texts[i] + ", stratum", x.of(0, 0), due[i][2]);
            due(texts[i] + ", odds", x.odds(0, 0, 1, 1), 100 * due[i][0] + due[i][1]);
        }
        says(32, "s I , A / B and n I , A / B: I of 1 or 2 digits, ABOVE 0, too");
        QuotaCarousel x = twelve(1, 1);
        due("s", tell(x, "s0,0/1;s11,00/60;s01,59/60;n0,1/02;n11,0/60;n01,60/60"), 6);
        due("second of 0", x.odds(0, 1, 1, 1), 1);
        due("second of 11", x.odds(11, 1, 1, 1), 60);
        due("second of 1", x.odds(1, 1, 1, 1), 5960);
        due("next of 0", x.odds(0, 2, 1, 1), 102);
        due("next of 11", x.odds(11, 2, 1, 1), 60);
        due("next of 1", x.odds(1, 2, 1, 1), 6060);
        says(32, "o K, r I, x P , Q");
        due("r", tell(x, "r0;r11;r01;r1;r00;r0"), 6);
        due("refusing", x.count(3), 2049);
        due("x and o", tell(x, "x0,11;x10,01;o5"), 3);
        places("by hand", x, 11, 10, 2, 3, 4, 5, 6, 7, 8, 9, 1, 0);
    }

    private static boolean isText(String start) {
        String odds = "\\d\\d?/\\d\\d?";
        String clause = "(u" + odds + ",\\d,-?\\d\\d?|[sn]\\d\\d?," + odds + "|o\\d|r\\d\\d?|x\\d\\d?,\\d\\d?)";
        return start.matches(clause + "(;" + clause + ")*");
    }

    private static void faulty(String text, int fault) {
        QuotaCarousel x = quiet();
        due("\"" + text + "\"", tell(x, text), -100 - fault);
        why("\"" + text + "\"", x, -100 - fault, 0, 0, 0);
        same("\"" + text + "\"", all(x), all(quiet()));
    }

    private static void textsThatEndTooEarly() {
        says(32, "FAULT: the length, if it ends too early");
        faulty("", 0);
        for (String text : TEXTS) {
            for (int length = 1; length < text.length(); length++) {
                String start = text.substring(0, length);
                if (!isText(start)) {
                    faulty(start, length);
                }
            }
            faulty(text + ";", text.length() + 1);
        }
        faulty("o1;".repeat(40), 120);
        faulty("o1;".repeat(39) + "r0,", 119);
        faulty("o1;".repeat(39) + "x0,", 120);
    }

    private static void bytesThatDontGoOn() {
        says(32, "FAULT: the place of the first byte with which no TEXT goes on");
        for (String text : TEXTS) {
            for (int place = 0; place <= text.length(); place++) {
                for (char byteThere : new char[] {1, ' ', '!', '.', ':', '+', 'a', 'U', 'p', 127}) {
                    faulty(text.substring(0, place) + byteThere + text.substring(place), place);
                    faulty(text.substring(0, place) + byteThere, place);
                }
            }
        }
        says(32, "FAULT: a digit too many, one too few, a - where none is told");
        String[] texts = {"u123/1,1,1", "u1/123,1,1", "u1/1,12,1", "u1/1,1,123", "u1/1,1,-123", "s123,1/1", "s1,123/1",
            "s1,1/123", "n123,1/1", "n1,123/1", "n1,1/123", "o12", "r123", "x123,1", "x1,123",
            "u/1,1,1", "u1/,1,1", "u1/1,,1", "u1/1,1,", "u1/1,1,;o1", "u1/1,1,-;o1", "s,1/1", "s1,/1", "s1,1/;", "o;",
            "r;", "x,1", "x1,;", "u-1/1,1,1", "u1/-1,1,1", "u1/1,-1,1", "u1/1,1,--1", "u1/1,1,1-", "s-1,1/1",
            "s1,-1/1", "o-1", "r-1", "x-1,1", "x1,-1", "x1/1", "s1/1", "s1,1,1", "u1,1", "u1/1/1", "o/", "r1,", "r1/",
            ";", ";o1", "o1;;o1", "o1,r1", "o1r1", "-", "0", "o1;1"};
        int[] faults = {3, 5, 6, 9, 10, 3, 5, 7, 3, 5, 7, 2, 3, 3, 5,
            1, 3, 5, 7, 7, 8, 1, 3, 5, 1,
            1, 1, 3, 1, 3, 5, 8, 8, 1,
            3, 1, 1, 1, 3, 2, 2, 4, 2, 4, 1, 2, 2,
            0, 0, 3, 2, 2, 0, 0, 3};
        due("as many as texts", faults.length, texts.length);
        for (int i = 0; i < texts.length; i++) {
            faulty(texts[i], faults[i]);
        }
    }

    private static void tellsEdges() {
        says(32, "one or more, as many as THE TAPE holds");
        due("forty", tell(quiet(), "r00" + ";o1".repeat(39)), 40);
        due("one", tell(quiet(), "o1"), 1);
        says(32, "a FAULT anywhere is ahead of all");
        faulty("o9;q", 3);
        faulty("r9;x0,0;o1;o", 12);
        faulty("u0/1,0,0;", 9);
        QuotaCarousel x = overByFirst();
        due("ahead of OVER", tell(x, "o1;o"), -104);
        says(32, "THE TAPE is empty then, by all of these");
        due("done", tell(x = quiet(), "o1"), 1);
        due("told once", x.tells(), -100);
        due("a fault", tell(x, "q"), -100);
        due("told once", x.tells(), -100);
        due("refused", tell(x, "o9"), -300);
        due("told once", x.tells(), -100);
        due("over", tell(x = overByFirst(), "o1"), OVER);
        due("told once", x.tells(), -100);
        says(32, "CLAUSES are done one behind the other");
        x = fresh();
        due("a UNIT and what is said of it", tell(x, "u1/2,0,0;r0;u1/2,0,0;x0,1;s1,1/3;r0;r1;o5"), 8);
        due("refusing", x.count(3), 2);
        due("by hand", x.at(0), 1);
        due("r twice is as it was", tell(x, "r1;r1"), 2);
        due("refusing", x.count(3), 2);
        due("x twice is as it was", tell(x, "x0,1;x1,0"), 2);
        due("by hand", x.at(0), 1);
    }

    private static void notDone(String text, Made made, int place, int answer) {
        QuotaCarousel x = made.carousel();
        due("\"" + text + "\"", tell(x, text), -300 - place);
        why("\"" + text + "\"", x, -300 - place, 1, answer, answer);
        same("\"" + text + "\"", all(x), all(made.carousel()));
    }

    private static void clausesThatAreRefused() {
        says(32, "the place where the first CLAUSE that would be refused begins; all is as it was");
        String[] clauses = {"u0/1,0,0", "u00/01,0,0", "u3/2,0,0", "u1/0,0,0", "u1/61,0,0", "u61/61,0,0", "u1/1,4,0",
            "u1/1,9,0", "s4,1/1", "s12,1/1", "s99,9/1", "s0,2/1", "s0,0/0", "s0,1/61", "n4,1/1", "n99,9/1", "n0,2/1",
            "n0,1/00", "n0,1/99", "o6", "o9", "r4", "r12", "r99", "x0,4", "x4,0", "x4,4", "x99,99", "x0,0", "x03,3"};
        int[] answers = {BAD, BAD, BAD, BAD, BAD, BAD, BAD,
            BAD, NONE, NONE, NONE, BAD, BAD, BAD, NONE, NONE, BAD,
            BAD, BAD, BAD, BAD, NONE, NONE, NONE, NONE, NONE, NONE, NONE, NOT, NOT};
        String ahead = "r0;r1;x0,1;o3;s0,1/7;n0,1/7;";
        for (int i = 0; i < clauses.length; i++) {
            notDone(clauses[i], Boundaries::quiet, 0, answers[i]);
            notDone(ahead + clauses[i], Boundaries::quiet, ahead.length(), answers[i]);
            notDone("u1/2,1,1;x3,4;" + clauses[i].replace('4', '5'), Boundaries::quiet, 14, answers[i]);
        }
        notDone("o1;".repeat(39) + "o6", Boundaries::quiet, 117, BAD);
        notDone("o1;u1/1,0,0", Boundaries::quietFull, 3, FULL);
        notDone("u0/1,0,0", Boundaries::quietFull, 0, BAD);
        notDone("u1/1,0,0;u1/1,0,0", BoundariesOfLettersTest::quietEleven, 9, FULL);
        notDone("r0", Boundaries::fresh, 0, NONE);
        notDone("x0,0", Boundaries::fresh, 0, NONE);
        notDone("o0;s0,1/1", Boundaries::fresh, 3, NONE);
        says(32, "of these the one named first");
        notDone("o1;o9;x0,0;r9", Boundaries::quiet, 3, BAD);
        notDone("o1;x1,1;o9", Boundaries::quiet, 3, NOT);
        notDone("o1;r99", Boundaries::overByFirst, 3, NONE);
    }

    private static QuotaCarousel quietEleven() {
        QuotaCarousel x = quiet();
        for (int i = 4; i < 11; i++) {
            x.unit(1, 6, 1, 1);
        }
        return x;
    }

    private static void overByText(String text, Made made) {
        QuotaCarousel x = made.carousel();
        due("\"" + text + "\"", tell(x, text), OVER);
        why("\"" + text + "\"", x, OVER, 2, OVER, HOST);
        same("\"" + text + "\"", all(x), all(made.carousel()));
    }

    private static void textsThatAreOver() {
        says(32, "OVER: ROW 0 is so behind all; all is as it was");
        overByText("u1/59,0,0;u1/53,0,0;u1/47,0,0;u1/43,0,0;u1/41,0,0;u1/37,0,0", Boundaries::quiet);
        overByText("u1/59,0,0;u1/53,0,0;u1/47,0,0;u1/43,0,0;u1/41,0,0;u1/37,0,0", Boundaries::fresh);
        overByText("r0;x0,1;o4;s0,1/9;n0,1/9;u1/37,0,0", () -> byRow(0, 59, 53, 47, 43, 41));
        overByText("u1/17,0,0", () -> oneByEach(59, 53, 47, 43, 41));
        says(32, "OVER, though it was so ahead of the TEXT");
        overByText("o1", Boundaries::overByFirst);
        overByText("r0;r0", Boundaries::overByFirst);
        says(32, "OVER by ALL alone");
        overByText("u1/1,0,0", BoundariesOfLettersTest::allButOne);
        QuotaCarousel x = allButOne();
        due("a lesser one isn't", tell(x, "u1/59,0,0"), 1);
        due("units", x.count(0), 9);
        says(32, "ROW 1 and ROW 2 may be OVER");
        x = oneByEach(2, 2, 2, 2, 2, 2);
        due("SECOND", tell(x, "s0,1/59;s1,1/53;s2,1/47;s3,1/43;s4,1/41;s5,1/37"), 6);
        due("ROW 1", x.common(1), OVER);
        due("NEXT", tell(x, "n0,1/59;n1,1/53;n2,1/47;n3,1/43;n4,1/41;n5,1/37"), 6);
        due("ROW 2", x.common(2), OVER);
        due("a refused CLAUSE is ahead of OVER", tell(overByFirst(), "o1;o9"), -303);
    }

    /** COMMON is 309663683, ALL 1837819965: with one more for sure it is 2147483648. */
    private static QuotaCarousel allButOne() {
        QuotaCarousel x = by(new int[] {43, 59}, new int[] {33, 53}, new int[] {10, 47}, new int[] {37, 43},
            new int[] {25, 49}, new int[] {1, 1}, new int[] {1, 1}, new int[] {1, 1});
        x.order(3);
        return x;
    }

    private static void reasonEdges() {
        says(33, "none at first; 0: another what");
        why("new", fresh(), 0, 0, 0, 0, 0);
        for (int what : new int[] {-1, 4, MIN, MAX}) {
            QuotaCarousel x = overByFirst();
            x.parts(0);
            due("reason(" + what + ")", x.reason(what), 0);
        }
        says(33, "the latest refused call, whatever was answered since");
        QuotaCarousel x = busy();
        due("NOT", x.swap(1, 1), NOT);
        due("answered", x.swap(0, 1) < 0 ? 0 : 1, 1);
        due("and told", x.tells(), 1);
        why("answers since", x, NOT, 0, 0, 0);
        due("OVER", overByNext().shift(0), OVER);
        why("an OVER of another", x, NOT, 0, 0, 0);
        says(33, "nothing behind all but OVER and a CLAUSE; what stood behind is gone");
        x = overByFirst();
        x.tells();
        tell(x, "o1");
        why("a TEXT that is OVER", x, OVER, 2, OVER, HOST);
        x.chosen(0);
        why("OVER", x, OVER, 1, HOST, HOST);
        x.mark(0, 100);
        why("BAD", x, BAD, 0, 0, 0);
        tell(x, "x0,0");
        why("a CLAUSE", x, -300, 1, NOT, NOT);
        tell(x, "x0,");
        why("a FAULT", x, -103, 0, 0, 0);
        x.look(1, 0);
        why("of longs the number taken away", x, NOTHING, 0, 0, 0);
        x.mean(1);
        why("OVER of longs", x, OVER, 1, HOST, HOST);
        says(33, "the -5 of judge() is no refusal");
        x = four();
        x.list(0, 0);
        x.at(-1);
        due("100", x.judge(0, 0), 100);
        why("100", x, NONE, 0, 0, 0);
        x = fresh();
        x.list(0, 0);
        due("-5", x.judge(0, 0), NOT);
        why("-5", x, 0, 0, 0, 0);
        says(33, "a long that looks like a refusal is none");
        x.list(0, 1);
        x.put(0, 0, LONGS - NONE);
        due("look", x.look(0, 0), LONGS - NONE);
        why("look", x, 0, 0, 0, 0);
        says(33, "what is below 0 and no refusal");
        x = marked(-1, new int[] {1, 60, 99});
        due("of", x.of(0, 2), -99);
        due("estimate", x.estimate(0, 0), -5940);
        due("mean", x.mean(0), -99);
        why("longs below 0", x, 0, 0, 0, 0);
    }

    private static void listEdges() {
        says(34, "LISTS 0 .. 2 hold nothing at first, or a row of 0 .. 15 longs");
        for (int list = 0; list < 3; list++) {
            QuotaCarousel x = fresh();
            due("nothing", x.look(list, 0), LONGS - NOTHING);
            due("15", x.list(list, 15), 1);
            due("the last", x.look(list, 14), 0);
            due("beyond", x.look(list, 15), LONGS - PLACE);
            due("0", x.list(list, 0), 1);
            due("no first", x.look(list, 0), LONGS - PLACE);
            due("another", x.look((list + 1) % 3, 0), LONGS - NOTHING);
        }
        says(34, "all 0, whatever was there");
        QuotaCarousel x = fresh();
        x.list(1, 15);
        for (int i = 0; i < 15; i++) {
            x.put(1, i, -1L - i);
        }
        x.list(1, 2);
        x.list(1, 15);
        for (int i = 0; i < 15; i++) {
            due("look(1, " + i + ")", x.look(1, i), 0);
        }
        says(34, "NONE; BAD: n above 15; BELOW");
        for (int list : new int[] {-1, 3, MIN, MAX}) {
            no("list " + list, Boundaries::busy, y -> y.list(list, 1), NONE);
            no("ahead of BAD", Boundaries::busy, y -> y.list(list, 16), NONE);
            no("ahead of BELOW", Boundaries::busy, y -> y.list(list, -1), NONE);
        }
        no("16", Boundaries::busy, y -> y.list(0, 16), BAD);
        no("far above", Boundaries::busy, y -> y.list(0, MAX), BAD);
        no("-1", Boundaries::busy, y -> y.list(0, -1), BELOW);
        no("far below", Boundaries::busy, y -> y.list(1, MIN), BELOW);
    }

    private static void putAndLookEdges() {
        long[] longs = {Long.MIN_VALUE, Long.MAX_VALUE, -1, 0, 1L << 32, LONGS, LONGS - PLACE};
        says(35, "any long, at the first place and the last");
        for (long v : longs) {
            QuotaCarousel x = busy();
            due("first", x.put(0, 0, v), 1);
            due("last", x.put(0, 3, v - 1), 1);
            says(36, "place i of a LIST");
            due("first", x.look(0, 0), v);
            due("last", x.look(0, 3), v - 1);
            due("between", x.look(0, 2), 77);
            says(35, "any long, at the first place and the last");
        }
        says(35, "NONE; NOTHING; PLACE");
        for (int bad : new int[] {-1, 4, 15, MIN, MAX}) {
            no("place " + bad, Boundaries::busy, x -> x.put(0, bad, 5), PLACE);
            no("of nothing", Boundaries::busy, x -> x.put(1, bad, 5), NOTHING);
            no("of an empty row", Boundaries::busy, x -> x.put(2, bad, 5), PLACE);
            no("list " + bad, Boundaries::busy, x -> x.put(bad, 0, 5), NONE);
        }
        no("of an empty row", Boundaries::busy, x -> x.put(2, 0, 5), PLACE);
        no("list 3", Boundaries::busy, x -> x.put(3, -1, 5), NONE);
        says(36, "NONE; NOTHING; PLACE");
        for (int bad : new int[] {-1, 4, 15, MIN, MAX}) {
            noLong("place " + bad, Boundaries::busy, x -> x.look(0, bad), PLACE);
            noLong("of nothing", Boundaries::busy, x -> x.look(1, bad), NOTHING);
            noLong("of an empty row", Boundaries::busy, x -> x.look(2, bad), PLACE);
            noLong("list " + bad, Boundaries::busy, x -> x.look(bad, 0), NONE);
        }
        noLong("of an empty row", Boundaries::busy, x -> x.look(2, 0), PLACE);
        noLong("list 3", Boundaries::busy, x -> x.look(3, -1), NONE);
    }

    private static QuotaCarousel listed(QuotaCarousel x, long... row) {
        x.list(2, row.length);
        for (int i = 0; i < row.length; i++) {
            x.put(2, i, row[i]);
        }
        return x;
    }

    private static void judgeEdges() {
        says(37, "-5: none is otherwise; the row may go on behind");
        due("just so long", listed(four(), 3, 2, 4, 3).judge(2, 0), NOT);
        due("longer", listed(four(), 3, 2, 4, 3, 9).judge(2, 0), NOT);
        due("from the last place it can be", listed(four(), 9, 3, 2, 4, 3).judge(2, 1), NOT);
        says(37, "the first UNIT that is otherwise");
        due("the first", listed(four(), 2, 2, 4, 3).judge(2, 0), 0);
        due("the last", listed(four(), 3, 2, 4, 2).judge(2, 0), 3);
        due("two of them", listed(four(), 3, 9, 9, 3).judge(2, 0), 1);
        due("ahead of a row that ends", listed(four(), 3, 9).judge(2, 0), 1);
        due("the last of the row", listed(four(), 3, 2, 9).judge(2, 0), 2);
        due("a long that is no int", listed(four(), 3, 2, 4, 3 + (1L << 32)).judge(2, 0), 3);
        due("below 0", listed(four(), -3, 2, 4, 3).judge(2, 0), 0);
        says(37, "100 and how many were looked at, if the row ends ahead of that");
        due("none", listed(four()).judge(2, 0), 100);
        due("one", listed(four(), 3).judge(2, 0), 101);
        due("three", listed(four(), 3, 2, 4).judge(2, 0), 103);
        due("three, from 1 on", listed(four(), 9, 3, 2, 4).judge(2, 1), 103);
        due("the last place", listed(four(), 9, 3).judge(2, 1), 101);
        says(37, "from a place beyond it, too: 100");
        due("just beyond", listed(four(), 3, 2, 4, 3).judge(2, 4), 100);
        due("one more", listed(four(), 3, 2, 4, 3).judge(2, 5), 100);
        due("beyond fifteen", listed(four(), 3, 2, 4, 3, 1, 1, 1, 1, 1, 1, 1, 1, 1, 1, 1).judge(2, 15), 100);
        due("far beyond", listed(four(), 3, 2, 4, 3).judge(2, MAX), 100);
        says(37, "no UNITS: -5");
        due("an empty row", listed(fresh()).judge(2, 0), NOT);
        due("a row", listed(fresh(), 7).judge(2, 0), NOT);
        due("beyond it", listed(fresh(), 7).judge(2, 1), NOT);
        due("far beyond it", listed(fresh()).judge(2, MAX), NOT);
        says(37, "twelve UNITS, of a row of fifteen");
        QuotaCarousel x = listed(twelve(1, 1), 0, 0, 0, 1, 1, 1, 1, 1, 1, 1, 1, 1, 1, 1, 1);
        due("from 3 on", x.judge(2, 3), NOT);
        due("from 4 on", x.judge(2, 4), 111);
        due("from 14 on", x.judge(2, 14), 101);
        says(37, "NONE: list, i below 0; NOTHING; OVER");
        for (int list : new int[] {-1, 3, MIN, MAX}) {
            no("list " + list, Boundaries::overByFirst, y -> y.judge(list, 0), NONE);
        }
        no("i -1", Boundaries::overByFirst, y -> y.judge(1, -1), NONE);
        no("i far below", Boundaries::overByFirst, y -> y.judge(0, MIN), NONE);
        no("NOTHING ahead of OVER", Boundaries::overByFirst, y -> y.judge(1, 0), NOTHING);
        no("NOTHING, of no UNITS", Boundaries::fresh, y -> y.judge(1, 0), NOTHING);
        no("OVER", Boundaries::overByFirst, y -> y.judge(0, 0), OVER);
        no("OVER, of an empty row", Boundaries::overByFirst, y -> y.judge(2, MAX), OVER);
        due("OVER of the others is none of it", overByNext().judge(0, 3), 0);
    }

    private static void imageEdges() {
        says(38, "how many UNITS: none, and twelve");
        due("none", fresh().image(), 0);
        due("twelve", twelve(1, 1).image(), 12);
        says(38, "of what is OVER, too");
        QuotaCarousel x = oneByEach(PRIMES);
        due("six", x.image(), 6);
        x.odds(5, 0, 1, 41);
        due("OVER no more", x.common(0), 259106347);
        due("undone", x.undo(), 6);
        due("OVER again", x.common(0), OVER);
        says(38, "the latest one");
        x = four();
        x.image();
        x.mark(0, 1);
        x.image();
        x.mark(0, 2);
        x.undo();
        due("mark", x.of(0, 2), 1);
        says(38, "what comes behind it is none of it");
        x = four();
        x.image();
        x.odds(0, 0, 1, 9);
        x.undo();
        due("first", x.odds(0, 0, 1, 1), 102);
    }

    private static void undoEdges() {
        says(39, "STATE: there is none");
        no("none", Boundaries::fresh, QuotaCarousel::undo, STATE);
        no("none of four", Boundaries::four, QuotaCarousel::undo, STATE);
        says(39, "how many UNITS: fewer, none, more");
        QuotaCarousel x = fresh();
        x.image();
        for (int i = 0; i < 12; i++) {
            x.unit(1, 2, 3, 9);
            x.set(i, 1, 1);
        }
        due("none", x.undo(), 0);
        due("count", x.count(0), 0);
        due("refusing", x.count(3), 0);
        due("common", x.common(0), 1);
        due("room for twelve", tell(x, "u1/1,0,0" + ";u1/1,0,0".repeat(11)), 12);
        due("none again", x.undo(), 0);
        says(39, "UNITS that are gone leave nothing on THE WHEEL");
        x = oneByEach(2, 6);
        x.image();
        x.unit(1, 6, 0, 5);
        x.unit(1, 3, 0, 5);
        due("runs of four", x.run(-1, 0), 5);
        x.undo();
        due("runs of two", x.run(-1, 0), 3);
        due("nobody", x.run(2, 2), 0);
        due("nobody", x.run(2, 1), 2);
        due("mean", x.mean(0), 0);
        due("overlap", x.overlap(5, 0), 2);
        due("unit 2", x.joints(2, 0), LONGS - NONE);
        says(39, "THE IMAGE stays, as often as all is as it was");
        QuotaCarousel y = busy();
        for (int i = 0; i < 3; i++) {
            due("four", y.undo(), 4);
            y.unit(1, 2, 0, 0);
            y.order(2);
            y.swap(0, 4);
            y.set(0, 1, 1);
            y.set(2, 1, 0);
            y.odds(3, 2, 0, 9);
        }
        y.undo();
        QuotaCarousel twin = busy();
        twin.undo();
        same("undone thrice", all(y), all(twin));
        says(39, "UNITS with all that is theirs, ORDER, HAND, and nothing else");
        y = busy();
        y.at(-1);
        y.undo();
        due("bytes", y.count(2), 2);
        due("lists", y.look(0, 2), 77);
        due("the reason", y.reason(0), NONE);
        due("order", y.count(1), 5);
        places("by hand", y, 1, 0, 2, 3);
        due("refusing", y.count(3), 4);
        due("mark", y.of(1, 2), -4);
        due("stratum", y.of(3, 0), 1);
        due("second", y.odds(1, 1, 1, 1), 5);
        due("next", y.odds(3, 2, 1, 1), 203);
        says(39, "a TEXT that is refused leaves THE IMAGE");
        y = quiet();
        tell(y, "u1/1,0,0;o9");
        due("four", y.undo(), 4);
        places("by hand", y, 1, 0, 2, 3);
    }

    private static void countEdges() {
        says(40, "nothing, and all there can be");
        for (int what = 0; what < 4; what++) {
            due("count(" + what + ")", fresh().count(what), 0);
        }
        QuotaCarousel x = refusing(twelve(1, 1), 4095);
        x.order(5);
        feed(x, "o".repeat(130));
        int[] due = {12, 5, 120, 4095};
        for (int what = 0; what < 4; what++) {
            due("count(" + what + ")", x.count(what), due[what]);
        }
        says(40, "NONE");
        for (int what : new int[] {-1, 4, MIN, MAX}) {
            no("count(" + what + ")", Boundaries::busy, y -> y.count(what), NONE);
        }
    }

    private static void askedChangesNothing() {
        Call[] asked = {x -> x.of(0, 3), x -> x.fraction(3, 2, 1), x -> x.at(3), x -> x.common(2), x -> x.parts(3),
            x -> x.size(1), x -> x.chosen(5), x -> x.run(-1, 0), x -> x.run(2, 2), x -> x.joint(0, 3, 1),
            x -> x.joints(3, 0), x -> x.fair(0), x -> x.estimate(5, 0), x -> x.mean(1), x -> x.spread(0),
            x -> x.twice(5, 9), x -> x.both(3, 3, 0), x -> x.kept(3, 5, 0), x -> x.overlap(5, 1), x -> x.shift(0),
            x -> x.shift(1), x -> x.replaced(0, 0), x -> x.replaced(5, 1), x -> x.substitute(0, 0, 0),
            x -> x.finals(1, 0, 0), x -> x.drawn(0, 60, -1), x -> x.reason(0), x -> x.reason(9), x -> x.look(0, 2),
            x -> x.judge(0, 0), x -> x.count(3)};
        for (int i = 0; i < asked.length; i++) {
            says(33, "what is asked changes nothing, THE REASON neither: question " + i);
            QuotaCarousel x = busy(), again = busy();
            long answer = asked[i].on(x);
            due("answered", Math.abs(answer) < LONGS / 2 && answer != NOT ? 1 : 0, 1);
            due("twice the same", asked[i].on(x), answer);
            why("asked", x, 0, 0, 0, 0);
            for (Call other : asked) {
                other.on(again);
            }
            due("behind all the others", asked[i].on(again), answer);
            same("asked", all(x), all(busy()));
            same("asked all", all(again), all(busy()));
        }
    }
}
