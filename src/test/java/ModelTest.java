import java.math.BigInteger;
import java.util.ArrayList;
import java.util.Arrays;
import java.util.Comparator;
import java.util.List;
import java.util.Set;
import java.util.TreeSet;
import java.util.regex.Matcher;
import java.util.regex.Pattern;

/**
 * Runs of calls drawn by a fixed generator, each answered by the class and by a model that is
 * written otherwise: it paints every wheel place by place, counts starts one by one, reckons
 * with BigInteger, finds faults with a regular expression and refuses with exceptions.
 */
public final class ModelTest {
    private static final int OBJECTS = 4000, CALLS = 500;
    private static int wrong = 0;
    private static long compared = 0, skipped = 0;
    /** Which answers and refusals each call is to give at least once; 1 stands for an answer. */
    private static final String DUE = "unit 1 -2 -4, odds 1 -1 -2, set 1 -1 -2, mark 1 -1 -2, of 1 -1, "
        + "fraction 1 -1 -2, order 1 -2, at 1 -1, swap 1 -1 -5, common 1 -1 -7, parts 1 -1 -7, size 1 -1 -7, "
        + "chosen 1 -2 -7, run 1 -1 -5 -7, joint 1 -1 -2 -7, joints 1 -1 -2 -7, fair 1 -1 -7, "
        + "estimate 1 -2 -7 -7wheel, mean 1 -2 -7 -7wheel, spread 1 -2 -7 -7wheel, "
        + "twice 1 -2 -7, both 1 -1 -2 -7, kept 1 -1 -2 -7, overlap 1 -2 -7, shift 1 -1 -7, replaced 1 -1 -2 -7, "
        + "substitute 1 -1 -2 -3 -5 -7, finals 1 -1 -2 -7, drawn 1 -1 -2 -7, feed 1 -2 -4, "
        + "tells 1 -7 fault clause, reason 1, list 1 -1 -2 -14, put 1 -1 -11 -13, look 1 -1 -11 -13, "
        + "judge 1 -1 -11 -7, image 1, undo 1 -3, count 1 -1";
    private static final Set<String> given = new TreeSet<>();

    public static void main(String[] args) {
        for (int i = 0; i < OBJECTS && wrong < 10; i++) {
            new ModelTest(i).play();
        }
        for (String call : DUE.split(", ")) {
            String[] words = call.split(" ");
            for (int i = 1; i < words.length; i++) {
                if (!given.contains(words[0] + " " + words[i])) {
                    wrong++;
                    System.out.println(words[0] + " never gave " + words[i] + ": the runs don't test it");
                }
            }
        }
        System.out.println(compared + " answers compared, " + skipped + " too dear to paint, " + wrong + " wrong");
        System.exit(wrong == 0 ? 0 : 1);
    }

    private static final String[] NAMES = {"unit", "odds", "set", "mark", "of", "fraction", "order", "at", "swap",
        "common", "parts", "size", "chosen", "run", "joint", "joints", "fair", "estimate", "mean", "spread",
        "twice", "both", "kept", "overlap", "shift", "replaced", "substitute", "finals", "drawn",
        "feed", "tells", "reason", "list", "put", "look", "judge", "image", "undo", "count"};
    private static final int TEXT = NAMES.length;

    private static final int[][] BELOWS = {{1, 2, 3, 4, 6, 12}, {1, 2, 3, 4, 5, 6}, {2, 4, 5, 8, 10, 20, 40},
        {59}, {1}, {7, 14, 28, 56}, {5, 7, 9, 11}, {59, 58, 57, 53, 51, 47}, {2, 3}};

    private final QuotaCarousel real = new QuotaCarousel();
    private final Model model = new Model();
    private final StringBuilder told = new StringBuilder();
    private final int number;
    private final int[] belows;
    private long seed;

    private ModelTest(int number) {
        this.number = number;
        seed = number * 7919L + 17;
        belows = BELOWS[number % BELOWS.length];
    }

    private int draw(int n) {
        seed = seed * 6364136223846793005L + 1442695040888963407L;
        return (int) ((seed >>> 33) % n);
    }

    /** Mostly 0 .. n - 1, now and then just beside it or far out. */
    private int near(int n) {
        int dice = draw(40);
        if (dice == 0) {
            return -1 - draw(2);
        }
        if (dice == 1) {
            return n + draw(2);
        }
        if (dice == 2) {
            return draw(2) == 0 ? Integer.MIN_VALUE : Integer.MAX_VALUE;
        }
        return n < 1 ? 0 : draw(n);
    }

    private int unit() {
        return near(model.units.size());
    }

    private int below() {
        int dice = draw(40);
        return dice == 0 ? near(63) : dice == 1 ? 1 + draw(60) : belows[draw(belows.length)];
    }

    /** Aboves that share little, so that sums of estimates leave the longs now and then. */
    private static final int[] ABOVES_BY_59 = {58, 57, 55, 53, 52, 51, 49, 47, 46, 43, 41, 37};

    private int above(int below) {
        if (below == 59 && belows.length == 1) {
            int next = model.units.size() + (draw(4) == 0 ? draw(12) : 0);
            return ABOVES_BY_59[next % ABOVES_BY_59.length];
        }
        return draw(40) == 0 ? near(63) : 1 + draw(Math.max(1, Math.min(below, 60)));
    }

    private int start(int row) {
        BigInteger common = model.common(row);
        return near(common.bitLength() > 31 ? Integer.MAX_VALUE : common.intValue());
    }

    private int markValue() {
        if (belows[0] == 59 && draw(4) != 0) {
            // Great marks make sums leave the longs, small ones of both signs the numbers below the line.
            return number % 2 == 0 ? 99 - draw(9) : draw(3) - 1;
        }
        return draw(30) == 0 ? near(2) * 100 : draw(199) - 99;
    }

    private void play() {
        for (int i = 0; i < CALLS && wrong < 10; i++) {
            int call = draw(3) == 0 ? draw(NAMES.length) : pick(i);
            if (call == TEXT) {
                feedText();
                i += 20;
            } else {
                compare(call);
            }
        }
    }

    /** Units come first, questions later, so that runs get somewhere. */
    private int pick(int i) {
        if (i < 30 && draw(3) != 0) {
            return draw(4) == 0 ? 1 : 0;
        }
        int dice = draw(12);
        return dice == 0 ? draw(9) : dice < 8 ? 9 + draw(20) : dice < 11 ? 29 + draw(10) : TEXT;
    }

    private void feedText() {
        String text = text();
        for (int i = 0; i < text.length(); i++) {
            int letter = text.charAt(i);
            both(29, args(letter), () -> real.feed(letter), () -> model.feed(letter));
        }
        for (int i = draw(12) == 0 ? 120 : 0; i > 0; i--) {
            both(29, args('o'), () -> real.feed('o'), () -> model.feed('o'));
        }
        if (draw(6) != 0) {
            compare(30);
            compare(31);
        }
    }

    private String text() {
        StringBuilder text = new StringBuilder();
        int clauses = 1 + draw(3);
        for (int i = 0; i < clauses; i++) {
            text.append(i > 0 ? ";" : "").append(clause());
        }
        if (draw(5) == 0) {
            int place = draw(text.length());
            String signs = "usnorx0123456789,;/- ";
            char sign = signs.charAt(draw(signs.length()));
            switch (draw(3)) {
                case 0: text.insert(place, sign); break;
                case 1: text.setCharAt(place, sign); break;
                default: text.deleteCharAt(place);
            }
        }
        return text.toString();
    }

    private String clause() {
        int below = Math.floorMod(below(), 100);
        int above = Math.floorMod(above(below), 100);
        String odds = above + "/" + (draw(5) == 0 && below < 10 ? "0" : "") + below;
        int one = Math.floorMod(unit(), 100);
        int two = Math.floorMod(unit(), 100);
        switch (draw(6)) {
            case 0: return "u" + odds + "," + draw(draw(6) == 0 ? 10 : 4) + "," + (draw(199) - 99);
            case 1: return "s" + one + "," + odds;
            case 2: return "n" + one + "," + odds;
            case 3: return "o" + draw(draw(6) == 0 ? 10 : 6);
            case 4: return "r" + one;
            default: return "x" + one + "," + two;
        }
    }

    private void check(String call, long got, long want) {
        compared++;
        told.append(call).append(" = ").append(got).append("; ");
        if (got != want) {
            wrong++;
            System.out.println(told + "due is " + want);
        }
    }

    private interface Call {
        long answer();
    }

    private void compare(int call) {
        int below = below();
        int[] a = {near(3), near(2), near(4), unit(), unit(), below, above(below), markValue(), near(6)};
        int first = start(0);
        int second = start(1);
        int next = start(2);
        int k = near(8) - 1;
        int n = near(60) + 1;
        long z = (long) draw(Integer.MAX_VALUE) * draw(Integer.MAX_VALUE);
        long v = draw(3) == 0 ? z : draw(12);
        int letter = draw(10) == 0 ? near(130) : 1 + draw(127);
        int size = near(16);
        int i = near(15);
        int l = near(3);
        switch (call) {
            case 0: both(call, args(a[6], below, a[2], a[7]), () -> real.unit(a[6], below, a[2], a[7]),
                () -> model.unit(a[6], below, a[2], a[7])); break;
            case 1: both(call, args(a[3], a[0], a[6], below), () -> real.odds(a[3], a[0], a[6], below),
                () -> model.odds(a[3], a[0], a[6], below)); break;
            case 2: both(call, args(a[3], a[1], a[2]), () -> real.set(a[3], a[1], a[2]),
                () -> model.set(a[3], a[1], a[2])); break;
            case 3: both(call, args(a[3], a[7]), () -> real.mark(a[3], a[7]), () -> model.mark(a[3], a[7])); break;
            case 4: both(call, args(a[3], a[2]), () -> real.of(a[3], a[2]), () -> model.of(a[3], a[2])); break;
            case 5: both(call, args(a[3], a[0], a[1]), () -> real.fraction(a[3], a[0], a[1]),
                () -> model.fraction(a[3], a[0], a[1])); break;
            case 6: both(call, args(a[8]), () -> real.order(a[8]), () -> model.order(a[8])); break;
            case 7: both(call, args(a[3]), () -> real.at(a[3]), () -> model.at(a[3])); break;
            case 8: both(call, args(a[3], a[4]), () -> real.swap(a[3], a[4]), () -> model.swap(a[3], a[4])); break;
            case 9: both(call, args(a[0]), () -> real.common(a[0]), () -> model.commonCall(a[0])); break;
            case 10: both(call, args(a[3]), () -> real.parts(a[3]), () -> model.parts(a[3])); break;
            case 11: both(call, args(a[1]), () -> real.size(a[1]), () -> model.size(a[1])); break;
            case 12: both(call, args(first), () -> real.chosen(first), () -> model.chosen(first)); break;
            case 13: both(call, args(k, a[0]), () -> real.run(k, a[0]), () -> model.run(k, a[0])); break;
            case 14: both(call, args(a[3], a[4], a[1]), () -> real.joint(a[3], a[4], a[1]),
                () -> model.joint(a[3], a[4], a[1])); break;
            case 15: both(call, args(a[3], a[1]), () -> real.joints(a[3], a[1]),
                () -> model.joints(a[3], a[1])); break;
            case 16: both(call, args(a[2]), () -> real.fair(a[2]), () -> model.fair(a[2])); break;
            case 17: for (int s = 0; s < 9; s++) {
                    int there = s == 0 ? first : start(0);
                    both(call, args(there, a[1]), () -> real.estimate(there, a[1]),
                        () -> model.estimate(there, a[1]));
                } break;
            case 18: both(call, args(a[1]), () -> real.mean(a[1]), () -> model.mean(a[1], false)); break;
            case 19: both(call, args(a[1]), () -> real.spread(a[1]), () -> model.mean(a[1], true)); break;
            case 20: both(call, args(first, second), () -> real.twice(first, second),
                () -> model.twice(first, second)); break;
            case 21: both(call, args(a[3], a[4], a[1]), () -> real.both(a[3], a[4], a[1]),
                () -> model.both(a[3], a[4], a[1])); break;
            case 22: both(call, args(a[3], next, a[1]), () -> real.kept(a[3], next, a[1]),
                () -> model.kept(a[3], next, a[1])); break;
            case 23: both(call, args(next, a[1]), () -> real.overlap(next, a[1]),
                () -> model.overlap(next, a[1])); break;
            case 24: both(call, args(a[1]), () -> real.shift(a[1]), () -> model.shift(a[1])); break;
            case 25: both(call, args(first, a[1]), () -> real.replaced(first, a[1]),
                () -> model.replaced(first, a[1])); break;
            case 26: both(call, args(a[3], first, a[1]), () -> real.substitute(a[3], first, a[1]),
                () -> model.substitute(a[3], first, a[1])); break;
            case 27: both(call, args(a[3], a[1], a[2] / 2), () -> real.finals(a[3], a[1], a[2] / 2),
                () -> model.finals(a[3], a[1], a[2] / 2)); break;
            case 28: both(call, args(a[3], n, z), () -> real.drawn(a[3], n, z), () -> model.drawn(a[3], n, z)); break;
            case 29: both(call, args(letter), () -> real.feed(letter), () -> model.feed(letter)); break;
            case 30: both(call, args(), () -> real.tells(), () -> model.tells()); break;
            case 31: for (int w = -1; w < 5; w++) {
                    int what = w;
                    both(call, args(what), () -> real.reason(what), () -> model.reason(what));
                } break;
            case 32: both(call, args(l, size), () -> real.list(l, size), () -> model.list(l, size)); break;
            case 33: both(call, args(l, i, v), () -> real.put(l, i, v), () -> model.put(l, i, v)); break;
            case 34: both(call, args(l, i), () -> real.look(l, i), () -> model.look(l, i)); break;
            case 35: tellParts(l, size, i);
                both(call, args(l, i), () -> real.judge(l, i), () -> model.judge(l, i)); break;
            case 36: both(call, args(), () -> real.image(), () -> model.image()); break;
            case 37: both(call, args(), () -> real.undo(), () -> model.undo()); break;
            default: both(call, args(a[2]), () -> real.count(a[2]), () -> model.count(a[2]));
        }
    }

    /** Puts parts into a list now and then, so that judge() has something to agree with. */
    private void tellParts(int list, int size, int from) {
        if (draw(2) == 0 || list < 0 || list > 2 || size < 0 || size > 15 || model.isOver(0)) {
            return;
        }
        both(32, args(list, size), () -> real.list(list, size), () -> model.list(list, size));
        for (int u = 0; u < model.units.size() && from >= 0 && from < size - u; u++) {
            int place = from + u;
            long v = draw(20) == 0 ? draw(50) : model.partsOf(model.units.get(u), 0, 0).longValue();
            both(33, args(list, place, v), () -> real.put(list, place, v), () -> model.put(list, place, v));
        }
    }

    private static String args(long... values) {
        String text = Arrays.toString(values);
        return "(" + text.substring(1, text.length() - 1) + ")";
    }

    private void both(int call, String args, Call realCall, Call modelCall) {
        long want;
        try {
            want = modelCall.answer();
            given.add(NAMES[call] + " 1");
        } catch (Refusal refusal) {
            int told = refusal.answer;
            boolean wheelStands = told != -7 || !model.isOver(0);
            given.add(NAMES[call] + " " + (told <= -300 ? "clause" : told <= -100 ? "fault" : told)
                + (told == -7 && !wheelStands && call >= 17 && call <= 19 ? "wheel" : ""));
            model.keep(refusal);
            want = "of fraction joint joints estimate mean spread both kept overlap finals look".matches(
                ".*\\b" + NAMES[call] + "\\b.*") ? 4000000000000000000L - refusal.answer : refusal.answer;
        } catch (TooDear tooDear) {
            skipped++;
            return;
        }
        check(NAMES[call] + args, realCall.answer(), want);
    }

    static final class Refusal extends RuntimeException {
        private static final long serialVersionUID = 1;
        final int answer;
        final int[] behind;

        Refusal(int answer, int... behind) {
            super("", null, false, false);
            this.answer = answer;
            this.behind = behind;
        }
    }

    private static final class TooDear extends RuntimeException {
        private static final long serialVersionUID = 1;

        TooDear() {
            super("", null, false, false);
        }
    }

    private static final class One implements Cloneable {
        int[][] odds = {{1, 1}, {1, 1}, {1, 1}};
        int number, stratum, mark, refusing;

        One copy() {
            One copy = new One();
            copy.number = number;
            copy.stratum = stratum;
            copy.mark = mark;
            copy.refusing = refusing;
            for (int i = 0; i < 3; i++) {
                copy.odds[i] = odds[i].clone();
            }
            return copy;
        }
    }

    static final class Fraction {
        static final Fraction ZERO = new Fraction(BigInteger.ZERO, BigInteger.ONE);
        final BigInteger above, below;

        Fraction(BigInteger above, BigInteger below) {
            BigInteger shared = above.gcd(below);
            this.above = above.divide(shared);
            this.below = below.divide(shared);
        }

        static Fraction of(long above, long below) {
            return new Fraction(BigInteger.valueOf(above), BigInteger.valueOf(below));
        }

        static BigInteger fit(BigInteger number) {
            if (number.bitLength() > 63) {
                throw new Refusal(-7, -9);
            }
            return number;
        }

        Fraction plus(Fraction o) {
            BigInteger left = fit(above.multiply(o.below));
            BigInteger right = fit(o.above.multiply(below));
            return new Fraction(fit(left.add(right)), fit(below.multiply(o.below)));
        }

        Fraction times(Fraction o) {
            return new Fraction(fit(above.multiply(o.above)), fit(below.multiply(o.below)));
        }

        long part(int part) {
            return (part == 0 ? above : below).longValueExact();
        }
    }

    private static final class Model {
        private static final int MOST_PAINTED = 6000;
        private static final BigInteger MOST = BigInteger.valueOf(Integer.MAX_VALUE);
        private static final Pattern TEXT = Pattern.compile("(?:" + clauses() + ")(?:;(?:" + clauses() + "))*");

        List<One> units = new ArrayList<>();
        List<Integer> hand = new ArrayList<>();
        int order = 0;
        private Model picture = null;
        private final StringBuilder tape = new StringBuilder();
        private final long[][] lists = new long[3][];
        private int[] reasons = null;

        private static String clauses() {
            String n = "[0-9]{1,2}", odds = n + "/" + n;
            return "u" + odds + ",[0-9],-?" + n + "|[sn]" + n + "," + odds + "|o[0-9]|r" + n + "|x" + n + "," + n;
        }

        void keep(Refusal refusal) {
            int[] b = refusal.behind;
            int nearest = b.length == 0 ? 0 : b[0];
            int last = b.length == 0 ? 0 : b[b.length - 1];
            reasons = new int[] {refusal.answer, b.length, nearest, last};
        }

        private static void need(boolean holds, int refusal) {
            if (!holds) {
                throw refusal == -7 ? new Refusal(-7, -9) : new Refusal(refusal);
            }
        }

        private void needUnit(int unit) {
            need(unit >= 0 && unit < units.size(), -1);
        }

        private static boolean within(long v, long least, long most) {
            return least <= v && v <= most;
        }

        private static boolean oddsFit(int row, int above, int below) {
            return within(below, 1, 60) && within(above, row == 0 ? 1 : 0, below);
        }

        // ---- units

        int unit(int above, int below, int stratum, int mark) {
            need(oddsFit(0, above, below) && within(stratum, 0, 3) && within(mark, -99, 99), -2);
            need(units.size() < 12, -4);
            One one = new One();
            one.number = units.size();
            one.odds[0] = new int[] {above, below};
            one.stratum = stratum;
            one.mark = mark;
            units.add(one);
            hand.add(one.number);
            return one.number;
        }

        int odds(int unit, int row, int above, int below) {
            needUnit(unit);
            need(within(row, 0, 2), -1);
            need(oddsFit(row, above, below), -2);
            int[] old = units.get(unit).odds[row];
            units.get(unit).odds[row] = new int[] {above, below};
            return 100 * old[0] + old[1];
        }

        int set(int unit, int what, int v) {
            needUnit(unit);
            need(within(what, 0, 1), -1);
            need(within(v, 0, what == 0 ? 3 : 1), -2);
            One one = units.get(unit);
            int old = what == 0 ? one.stratum : one.refusing;
            if (what == 0) {
                one.stratum = v;
            } else {
                one.refusing = v;
            }
            return old;
        }

        int mark(int unit, int v) {
            needUnit(unit);
            need(within(v, -99, 99), -2);
            units.get(unit).mark = v;
            return 1;
        }

        long of(int unit, int what) {
            needUnit(unit);
            need(within(what, 0, 3), -1);
            One one = units.get(unit);
            return new long[] {one.stratum, one.refusing, one.mark, inOrder().indexOf(one)}[what];
        }

        long fraction(int unit, int row, int part) {
            needUnit(unit);
            need(within(row, 0, 2), -1);
            need(within(part, 0, 1), -2);
            int[] odds = units.get(unit).odds[row];
            return Fraction.of(odds[0], odds[1]).part(part);
        }

        int order(int number) {
            need(within(number, 0, 5), -2);
            int old = order;
            order = number;
            return old;
        }

        private List<One> inOrder() {
            List<One> row = new ArrayList<>();
            for (int number : hand) {
                row.add(units.get(number));
            }
            if (order == 5) {
                return row;
            }
            Comparator<One> by;
            switch (order) {
                case 1: by = Comparator.comparingLong(o -> -(o.odds[0][0] * wide() / o.odds[0][1])); break;
                case 2: by = Comparator.comparingInt(o -> o.stratum); break;
                case 3: by = Comparator.comparingInt(o -> o.mark); break;
                case 4: by = Comparator.comparingInt(o -> 1000 * o.stratum
                    + (o.stratum == 0 || o.stratum == 2 ? o.mark : -o.mark)); break;
                default: by = Comparator.comparingInt(o -> 0);
            }
            row.sort(by.thenComparingInt(o -> o.number));
            return row;
        }

        /** By this all odds with belows up to 60 differ as whole numbers if they differ. */
        private static long wide() {
            return 1L << 50;
        }

        int at(int place) {
            needUnit(place);
            return inOrder().get(place).number;
        }

        int swap(int p, int q) {
            needUnit(p);
            needUnit(q);
            need(p != q, -5);
            int moved = hand.get(p);
            hand.set(p, hand.get(q));
            hand.set(q, moved);
            return hand.get(p);
        }

        // ---- the wheel

        BigInteger common(int row) {
            BigInteger common = BigInteger.ONE;
            for (One one : units) {
                for (int r = 0; r < 3; r++) {
                    if (r == row || row == 2 && r == 0) {
                        BigInteger below = BigInteger.valueOf(one.odds[r][1]);
                        common = common.multiply(below).divide(common.gcd(below));
                    }
                }
            }
            return common;
        }

        BigInteger partsOf(One one, int row, int commonRow) {
            return common(commonRow).divide(BigInteger.valueOf(one.odds[row][1]))
                .multiply(BigInteger.valueOf(one.odds[row][0]));
        }

        private BigInteger all(int row, int commonRow) {
            BigInteger sum = BigInteger.ZERO;
            for (One one : units) {
                sum = sum.add(partsOf(one, row, commonRow));
            }
            return sum;
        }

        boolean isOver(int row) {
            return common(row).compareTo(MOST) > 0 || all(row, row).compareTo(MOST) > 0
                || row == 2 && all(0, 2).compareTo(MOST) > 0;
        }

        private void needRow(int row) {
            need(!isOver(row), -7);
        }

        /** Who is chosen at each place; refuses what would be dear. */
        private int[] paint(int row, int commonRow, int who) {
            if (common(commonRow).intValueExact() > MOST_PAINTED) {
                throw new TooDear();
            }
            int[] places = new int[common(commonRow).intValueExact()];
            int next = 0;
            for (One one : inOrder()) {
                int parts = (who >> one.number & 1) == 0 ? 0 : partsOf(one, row, commonRow).intValueExact();
                for (int i = 0; i < parts; i++) {
                    places[next] |= 1 << one.number;
                    next = next + 1 == places.length ? 0 : next + 1;
                }
            }
            return places;
        }

        private int[] wheel() {
            return paint(0, 0, -1);
        }

        private int commonOf(int row) {
            return common(row).intValueExact();
        }

        private static int bit(int bits, int unit) {
            return bits >> unit & 1;
        }

        int commonCall(int row) {
            need(within(row, 0, 2), -1);
            needRow(row);
            return commonOf(row);
        }

        int parts(int unit) {
            needUnit(unit);
            needRow(0);
            return partsOf(units.get(unit), 0, 0).intValueExact();
        }

        int size(int what) {
            need(within(what, 0, 1), -1);
            needRow(0);
            int least = Integer.MAX_VALUE;
            int most = 0;
            for (int bits : wheel()) {
                least = Math.min(least, Integer.bitCount(bits));
                most = Math.max(most, Integer.bitCount(bits));
            }
            return what == 0 ? least : most;
        }

        int chosen(int start) {
            needRow(0);
            need(within(start, 0, commonOf(0) - 1), -2);
            return wheel()[start];
        }

        /** Rows of first start, how many, who. */
        private List<int[]> runs() {
            List<int[]> runs = new ArrayList<>();
            int[] wheel = wheel();
            for (int start = 0; start < wheel.length; start++) {
                if (start > 0 && wheel[start] == wheel[start - 1]) {
                    runs.get(runs.size() - 1)[1]++;
                } else {
                    runs.add(new int[] {start, 1, wheel[start]});
                }
            }
            return runs;
        }

        int run(int k, int what) {
            need(k >= -1 && within(what, 0, 2), -1);
            needRow(0);
            if (k == -1) {
                return runs().size();
            }
            need(k < runs().size(), -5);
            return runs().get(k)[what];
        }

        private long jointCount(int one, int other) {
            long count = 0;
            for (int bits : wheel()) {
                count += bit(bits, one) & bit(bits, other);
            }
            return count;
        }

        long joint(int one, int other, int part) {
            needUnit(one);
            needUnit(other);
            need(within(part, 0, 1), -2);
            needRow(0);
            return Fraction.of(jointCount(one, other), commonOf(0)).part(part);
        }

        long joints(int unit, int part) {
            needUnit(unit);
            need(within(part, 0, 1), -2);
            needRow(0);
            long sum = 0;
            for (int bits : wheel()) {
                sum += bit(bits, unit) * Integer.bitCount(bits);
            }
            return Fraction.of(sum, commonOf(0)).part(part);
        }

        int fair(int stratum) {
            need(within(stratum, 0, 3), -1);
            needRow(0);
            long parts = 0;
            int members = 0;
            for (One one : units) {
                if (one.stratum == stratum) {
                    parts += partsOf(one, 0, 0).longValueExact();
                    members |= 1 << one.number;
                }
            }
            long cut = parts / commonOf(0);
            long up = parts % commonOf(0) == 0 ? cut : cut + 1;
            for (int bits : wheel()) {
                int chosen = Integer.bitCount(bits & members);
                if (chosen != cut && chosen != up) {
                    return 0;
                }
            }
            return 1;
        }

        private Fraction estimateOf(int bits) {
            Fraction sum = Fraction.ZERO;
            for (One one : units) {
                if (bit(bits, one.number) == 1) {
                    sum = sum.plus(Fraction.of((long) one.mark * one.odds[0][1], one.odds[0][0]));
                }
            }
            return sum;
        }

        long estimate(int start, int part) {
            need(within(part, 0, 1), -2);
            needRow(0);
            need(within(start, 0, commonOf(0) - 1), -2);
            return estimateOf(wheel()[start]).part(part);
        }

        long mean(int part, boolean squared) {
            need(within(part, 0, 1), -2);
            needRow(0);
            long marks = 0;
            for (One one : units) {
                marks += one.mark;
            }
            Fraction sum = Fraction.ZERO;
            for (int[] run : runs()) {
                Fraction value = estimateOf(run[2]);
                if (squared) {
                    value = value.plus(Fraction.of(-marks, 1));
                    value = value.times(value);
                }
                sum = sum.plus(value.times(Fraction.of(run[1], commonOf(0))));
            }
            return sum.part(part);
        }

        // ---- twice, kept, replaced

        int twice(int start, int again) {
            needRow(0);
            needRow(1);
            need(within(start, 0, commonOf(0) - 1) && within(again, 0, commonOf(1) - 1), -2);
            return paint(1, 1, wheel()[start])[again];
        }

        long both(int one, int other, int part) {
            needUnit(one);
            needUnit(other);
            need(within(part, 0, 1), -2);
            needRow(0);
            needRow(1);
            BigInteger pairs = BigInteger.ZERO;
            for (int[] run : runs()) {
                long agains = 0;
                for (int bits : paint(1, 1, run[2])) {
                    agains += bit(bits, one) & bit(bits, other);
                }
                pairs = pairs.add(BigInteger.valueOf(agains).multiply(BigInteger.valueOf(run[1])));
            }
            return new Fraction(pairs, common(0).multiply(common(1))).part(part);
        }

        private long keptCount(int mask, int shift) {
            int[] wheel = paint(0, 2, -1);
            int[] next = paint(2, 2, -1);
            return keptCount(wheel, next, mask, shift);
        }

        private static long keptCount(int[] wheel, int[] next, int mask, int shift) {
            long count = 0;
            for (int place = 0; place < wheel.length; place++) {
                count += Integer.bitCount(wheel[place] & next[Math.floorMod(place - shift, wheel.length)] & mask);
            }
            return count;
        }

        long kept(int unit, int shift, int part) {
            needUnit(unit);
            need(within(part, 0, 1), -2);
            needRow(2);
            need(within(shift, 0, commonOf(2) - 1), -2);
            return Fraction.of(keptCount(1 << unit, shift), commonOf(2)).part(part);
        }

        long overlap(int shift, int part) {
            need(within(part, 0, 1), -2);
            needRow(2);
            need(within(shift, 0, commonOf(2) - 1), -2);
            return Fraction.of(keptCount(-1, shift), commonOf(2)).part(part);
        }

        int shift(int what) {
            need(within(what, 0, 1), -1);
            needRow(2);
            if (commonOf(2) > 400) {
                throw new TooDear();
            }
            int[] wheel = paint(0, 2, -1);
            int[] next = paint(2, 2, -1);
            int found = 0;
            for (int shift = 1; shift < wheel.length; shift++) {
                long here = keptCount(wheel, next, -1, shift);
                long there = keptCount(wheel, next, -1, found);
                if (what == 0 ? here > there : here < there) {
                    found = shift;
                }
            }
            return found;
        }

        /** The substitute of each unit; -1: none. Last: who is final. */
        private int[] replace(int chosen, int manner) {
            List<One> row = inOrder();
            int[] instead = new int[13];
            Arrays.fill(instead, -1);
            for (One one : row) {
                if (bit(chosen, one.number) == 1 && one.refusing == 1) {
                    List<One> behind = new ArrayList<>(row.subList(row.indexOf(one) + 1, row.size()));
                    behind.addAll(row.subList(0, row.indexOf(one)));
                    behind.removeIf(o -> bit(chosen, o.number) == 1 || o.refusing == 1
                        || Arrays.stream(instead, 0, 12).anyMatch(s -> s == o.number)
                        || manner == 1 && o.stratum != one.stratum);
                    instead[one.number] = behind.isEmpty() ? -1 : behind.get(0).number;
                }
            }
            instead[12] = 0;
            for (One one : row) {
                boolean stays = bit(chosen, one.number) == 1 && one.refusing == 0;
                boolean comes = Arrays.stream(instead, 0, 12).anyMatch(s -> s == one.number);
                instead[12] |= stays || comes ? 1 << one.number : 0;
            }
            return instead;
        }

        int replaced(int start, int manner) {
            need(within(manner, 0, 1), -1);
            needRow(0);
            need(within(start, 0, commonOf(0) - 1), -2);
            return replace(wheel()[start], manner)[12];
        }

        int substitute(int unit, int start, int manner) {
            needUnit(unit);
            need(within(manner, 0, 1), -1);
            needRow(0);
            need(within(start, 0, commonOf(0) - 1), -2);
            int chosen = wheel()[start];
            need(bit(chosen, unit) == 1 && units.get(unit).refusing == 1, -3);
            int found = replace(chosen, manner)[unit];
            need(found >= 0, -5);
            return found;
        }

        long finals(int unit, int manner, int part) {
            needUnit(unit);
            need(within(manner, 0, 1), -1);
            need(within(part, 0, 1), -2);
            needRow(0);
            long starts = 0;
            for (int[] run : runs()) {
                starts += (long) run[1] * bit(replace(run[2], manner)[12], unit);
            }
            return Fraction.of(starts, commonOf(0)).part(part);
        }

        int drawn(int unit, int n, long z) {
            needUnit(unit);
            need(within(n, 1, 60), -2);
            needRow(0);
            int[] wheel = wheel();
            int often = 0;
            BigInteger seed = BigInteger.valueOf(z);
            for (int i = 0; i < n; i++) {
                seed = seed.multiply(new BigInteger("6364136223846793005"))
                    .add(new BigInteger("1442695040888963407")).mod(BigInteger.ONE.shiftLeft(64));
                often += bit(wheel[seed.shiftRight(33).mod(common(0)).intValueExact()], unit);
            }
            return often;
        }

        // ---- letters, reasons, lists, the image

        int feed(int letter) {
            need(within(letter, 1, 127), -2);
            need(tape.length() < 120, -4);
            tape.append((char) letter);
            return tape.length();
        }

        int tells() {
            String text = tape.toString();
            tape.setLength(0);
            if (!TEXT.matcher(text).matches()) {
                throw new Refusal(-100 - fault(text));
            }
            Model before = copy();
            int place = 0;
            int done = 0;
            for (String clause : text.split(";")) {
                try {
                    tell(clause.charAt(0), clause.substring(1).split("[,/]"));
                } catch (Refusal refusal) {
                    takeFrom(before);
                    throw new Refusal(-300 - place, refusal.answer);
                }
                place += clause.length() + 1;
                done++;
            }
            if (isOver(0)) {
                takeFrom(before);
                throw new Refusal(-7, -7, -9);
            }
            return done;
        }

        private static int fault(String text) {
            for (int i = 0; i < text.length(); i++) {
                Matcher matcher = TEXT.matcher(text.substring(0, i + 1));
                if (!matcher.matches() && !matcher.hitEnd()) {
                    return i;
                }
            }
            return text.length();
        }

        private void tell(char kind, String[] words) {
            int[] n = new int[4];
            for (int i = 0; i < words.length; i++) {
                n[i] = Integer.parseInt(words[i]);
            }
            switch (kind) {
                case 'u': unit(n[0], n[1], n[2], n[3]); break;
                case 's': odds(n[0], 1, n[1], n[2]); break;
                case 'n': odds(n[0], 2, n[1], n[2]); break;
                case 'o': order(n[0]); break;
                case 'r': needUnit(n[0]); units.get(n[0]).refusing ^= 1; break;
                default: swap(n[0], n[1]);
            }
        }

        int reason(int what) {
            return reasons == null || !within(what, 0, 3) ? 0 : reasons[what];
        }

        int list(int list, int n) {
            need(within(list, 0, 2), -1);
            need(n <= 15, -2);
            need(n >= 0, -14);
            lists[list] = new long[n];
            return 1;
        }

        private long[] rowAt(int list, int i) {
            need(within(list, 0, 2), -1);
            need(lists[list] != null, -11);
            need(within(i, 0, lists[list].length - 1), -13);
            return lists[list];
        }

        int put(int list, int i, long v) {
            rowAt(list, i)[i] = v;
            return 1;
        }

        long look(int list, int i) {
            return rowAt(list, i)[i];
        }

        int judge(int list, int i) {
            need(within(list, 0, 2) && i >= 0, -1);
            need(lists[list] != null, -11);
            needRow(0);
            for (One one : units) {
                if ((long) i + one.number >= lists[list].length) {
                    return 100 + one.number;
                }
                if (lists[list][i + one.number] != partsOf(one, 0, 0).longValueExact()) {
                    return one.number;
                }
            }
            return -5;
        }

        private Model copy() {
            Model copy = new Model();
            copy.takeFrom(this);
            return copy;
        }

        private void takeFrom(Model from) {
            units = new ArrayList<>();
            for (One one : from.units) {
                units.add(one.copy());
            }
            hand = new ArrayList<>(from.hand);
            order = from.order;
        }

        int image() {
            picture = copy();
            return units.size();
        }

        int undo() {
            need(picture != null, -3);
            takeFrom(picture);
            return units.size();
        }

        int count(int what) {
            need(within(what, 0, 3), -1);
            int bits = 0;
            for (One one : units) {
                bits |= one.refusing << one.number;
            }
            return new int[] {units.size(), order, tape.length(), bits}[what];
        }
    }
}
