/**
 * What the tests of the boundaries share. A refused call is made on one of two carousels that were made
 * alike: it must answer as told, THE REASON must say so, and all else must be as on the other one.
 */
abstract class Boundaries {
    static final int NONE = -1, BAD = -2, STATE = -3, FULL = -4, NOT = -5, OVER = -7, HOST = -9;
    static final int NOTHING = -11, PLACE = -13, BELOW = -14;
    static final int MIN = Integer.MIN_VALUE, MAX = Integer.MAX_VALUE;
    static final long LONGS = 4000000000000000000L;
    static final int[] PRIMES = {59, 53, 47, 43, 41, 37};

    private static final int PROMISES = 40;
    private static final boolean[] tested = new boolean[PROMISES + 1];
    private static int promise, asked, wrong;
    private static String sentence = "";

    interface Made {
        QuotaCarousel carousel();
    }

    interface Call {
        long on(QuotaCarousel x);
    }

    /** Ends the test of the promises from one to another; each must have had a boundary. */
    static void end(int from, int to) {
        for (int i = from; i <= to; i++) {
            if (!tested[i]) {
                wrong++;
                System.out.println("promise " + i + " has no test");
            }
        }
        System.out.println(asked + " answers looked at, " + wrong + " wrong");
        System.exit(wrong == 0 ? 0 : 1);
    }

    // ---- looking

    static void says(int number, String words) {
        promise = number;
        sentence = words;
        tested[number] = true;
    }

    static void due(String call, long got, long want) {
        asked++;
        if (got != want) {
            wrong++;
            System.out.println("promise " + promise + ", " + sentence + ": " + call + " answered " + got
                + ", due is " + want);
        }
    }

    static void same(String call, String got, String want) {
        asked++;
        if (!got.equals(want)) {
            wrong++;
            System.out.println("promise " + promise + ", " + sentence + ": " + call + " left " + got + ", due is "
                + want);
        }
    }

    static void fraction(String call, long above, long below, long wantAbove, long wantBelow) {
        due(call + " above", above, wantAbove);
        due(call + " below", below, wantBelow);
    }

    /** Refused with an int: the reason says so, and all else is as if it had not been called. */
    static void no(String call, Made made, Call asks, int refusal) {
        refused(call, made, asks, refusal, refusal);
    }

    static void noLong(String call, Made made, Call asks, int refusal) {
        refused(call, made, asks, LONGS - refusal, refusal);
    }

    static void refused(String call, Made made, Call asks, long answer, int refusal) {
        QuotaCarousel x = made.carousel();
        due(call, asks.on(x), answer);
        int host = refusal == OVER ? HOST : 0;
        why(call, x, refusal, refusal == OVER ? 1 : 0, host, host);
        same(call, all(x), all(made.carousel()));
    }

    static void why(String call, QuotaCarousel x, int... reasons) {
        for (int what = 0; what < reasons.length; what++) {
            due(call + ", then reason(" + what + ")", x.reason(what), reasons[what]);
        }
    }

    /** All that can be seen of a carousel but the reason; it is used up by looking. */
    static String all(QuotaCarousel x) {
        StringBuilder all = new StringBuilder("lists");
        for (int list = 0; list < 3; list++) {
            for (int i = 0; i < 15; i++) {
                all.append(' ').append(x.look(list, i));
            }
        }
        all.append(" bytes ").append(x.count(2));
        roster(x, all.append(" now"));
        all.append(" told ").append(x.tells()).append(" order ").append(x.count(1));
        all.append(" undo ").append(x.undo());
        roster(x, all);
        return all.toString();
    }

    static void roster(QuotaCarousel x, StringBuilder all) {
        all.append(" units ").append(x.count(0)).append(" order ").append(x.count(1));
        all.append(" refusing ").append(x.count(3));
        for (int unit = 0; unit < x.count(0); unit++) {
            all.append(" unit");
            for (int what = 0; what < 4; what++) {
                all.append(' ').append(x.of(unit, what));
            }
        }
        int order = x.order(5);
        for (int place = 0; place < x.count(0); place++) {
            all.append(" hand ").append(x.at(place));
        }
        x.order(order);
        for (int unit = 0; unit < x.count(0); unit++) {
            for (int row = 0; row < 3; row++) {
                all.append(" odds ").append(x.odds(unit, row, 1, 1));
            }
        }
    }

    // ---- carousels

    static QuotaCarousel fresh() {
        return new QuotaCarousel();
    }

    static QuotaCarousel by(int[]... odds) {
        QuotaCarousel x = fresh();
        for (int[] unit : odds) {
            x.unit(unit[0], unit[1], 0, 0);
        }
        return x;
    }

    static QuotaCarousel oneByEach(int... belows) {
        QuotaCarousel x = fresh();
        for (int below : belows) {
            x.unit(1, below, 0, 0);
        }
        return x;
    }

    static QuotaCarousel twelve(int above, int below) {
        QuotaCarousel x = fresh();
        for (int i = 0; i < 12; i++) {
            x.unit(above, below, 0, 0);
        }
        return x;
    }

    /**
     * COMMON 6. Arcs: 0 on 0 1 2; 1 on 3 4; 2 on 5 0 1 2; 3 on 3 4 5.
     * Starts 0 1 2 choose 0 and 2; 3 4 choose 1 and 3; 5 chooses 2 and 3.
     */
    static QuotaCarousel four() {
        QuotaCarousel x = by(new int[] {1, 2}, new int[] {1, 3}, new int[] {2, 3}, new int[] {1, 2});
        x.set(2, 0, 1);
        x.set(3, 0, 1);
        x.mark(0, 10);
        x.mark(1, -4);
        x.mark(2, 7);
        return x;
    }

    /** Four units with something in all that a call could change, but an empty tape. */
    static QuotaCarousel quiet() {
        QuotaCarousel x = four();
        x.odds(0, 1, 1, 2);
        x.odds(1, 1, 0, 5);
        x.odds(3, 2, 2, 3);
        x.set(2, 1, 1);
        x.order(5);
        x.swap(0, 1);
        x.image();
        x.set(2, 1, 0);
        x.set(0, 1, 1);
        x.set(3, 0, 3);
        x.mark(1, 50);
        x.swap(3, 0);
        x.order(0);
        x.list(0, 4);
        x.put(0, 2, 77);
        x.list(2, 0);
        return x;
    }

    static QuotaCarousel busy() {
        QuotaCarousel x = quiet();
        x.feed('o');
        x.feed('3');
        return x;
    }

    static QuotaCarousel quietFull() {
        QuotaCarousel x = quiet();
        for (int i = 4; i < 12; i++) {
            x.unit(1, 6, 1, 1);
        }
        return x;
    }

    /** As quiet() is, with ten units and a row that is OVER; the others are not, but for ROW 2 where ROW 0 is. */
    static QuotaCarousel quietOver(int row) {
        QuotaCarousel x = quiet();
        for (int below : PRIMES) {
            int unit = x.unit(1, row == 0 ? below : 6, 0, 1);
            x.odds(unit, row, 1, below);
        }
        return x;
    }

    static QuotaCarousel overByFirst() {
        return quietOver(0);
    }

    static QuotaCarousel overBySecond() {
        return quietOver(1);
    }

    static QuotaCarousel overByNext() {
        return quietOver(2);
    }

    /** Units whose COMMON by one row (or by ROW 2) is that of these BELOWS. */
    static QuotaCarousel byRow(int row, int... belows) {
        QuotaCarousel x = fresh();
        for (int below : belows) {
            int unit = x.unit(1, row == 0 ? below : 1, 0, 0);
            x.odds(unit, row, row == 0 ? 1 : 0, below);
        }
        if (row == 2) {
            for (int unit = 0; unit < belows.length; unit++) {
                x.odds(unit, 0, 1, belows[belows.length - 1]);
            }
        }
        return x;
    }

    static QuotaCarousel nine(int row, int[] aboves) {
        int[] belows = {59, 53, 47, 43, 49, 1, 1, 1, 1};
        QuotaCarousel x = fresh();
        for (int i = 0; i < 9; i++) {
            x.unit(row == 0 ? aboves[i] : 1, row == 0 ? belows[i] : 59, 0, 0);
            x.odds(i, 1, row == 1 ? aboves[i] : 0, belows[i]);
            x.odds(i, 2, row == 2 ? aboves[i] : 0, belows[i]);
        }
        return x;
    }

    /** COMMON is 309663683, ALL 2147483647. */
    static QuotaCarousel allAtTheEdge(int row) {
        return nine(row, new int[] {39, 39, 14, 27, 30, 1, 1, 1, 1});
    }

    /** COMMON is 309663683, ALL 2147483648. */
    static QuotaCarousel allBeyond(int row) {
        return nine(row, new int[] {43, 33, 10, 37, 25, 1, 1, 1, 1});
    }

    /** Rows of above, below and mark; the marks times a sign. */
    static QuotaCarousel marked(int sign, int[]... rows) {
        QuotaCarousel x = fresh();
        for (int[] row : rows) {
            x.unit(row[0], row[1], 0, sign * row[2]);
        }
        return x;
    }

    /** Twelve at most by 59, each with an above and a mark. */
    static int[][] by59(int... abovesAndMarks) {
        int[][] rows = new int[abovesAndMarks.length / 2][];
        for (int i = 0; i < rows.length; i++) {
            rows[i] = new int[] {abovesAndMarks[2 * i], 59, abovesAndMarks[2 * i + 1]};
        }
        return rows;
    }

    static QuotaCarousel refusing(QuotaCarousel x, int bits) {
        for (int unit = 0; unit < x.count(0); unit++) {
            x.set(unit, 1, bits >> unit & 1);
        }
        return x;
    }

    // ---- places and texts

    static void places(String what, QuotaCarousel x, int... due) {
        for (int i = 0; i < due.length; i++) {
            due(what + ", at(" + i + ")", x.at(i), due[i]);
            due(what + ", place of " + due[i], x.of(due[i], 3), i);
        }
    }

    static void feed(QuotaCarousel x, String text) {
        for (int i = 0; i < text.length(); i++) {
            x.feed(text.charAt(i));
        }
    }

    static int tell(QuotaCarousel x, String text) {
        feed(x, text);
        int told = x.tells();
        due("bytes behind \"" + text + "\"", x.count(2), 0);
        return told;
    }
}
