import java.math.BigInteger;
import java.util.Arrays;
import java.util.Random;
import java.util.TreeMap;

/** Long runs of calls, drawn by fixed seeds, against a slow desk that follows the document word by word. */
public final class OracleRuns {
    private static final int RUNS = 3000, STEPS_A_BEGINNING = 40;
    /** No step makes so many calls that it goes from here beyond the 512 that a desk is made for. */
    private static final int LAST_STEP_AT = 512 - 40;
    private static final int MOST_WORDS = 12;
    private static int wrong = 0;

    public static void main(String[] args) {
        for (int run = 0; run < RUNS && wrong < 20; run++) {
            new Run(run).go();
        }
        System.out.println(wrong == 0 ? "all answers are as due" : wrong + " answers are not as due");
        if (wrong != 0) {
            System.exit(1);
        }
    }

    /** One run: the same calls on both desks. */
    private static final class Run {
        private final int seed;
        private final Random random;
        private final MomentDesk desk = new MomentDesk();
        private final SlowDesk slow = new SlowDesk();
        private final StringBuilder calls = new StringBuilder();
        private final int wild;
        private final int flavour;
        private int made = 0;

        Run(int seed) {
            this.seed = seed;
            random = new Random(seed * 7919L + 17);
            wild = seed % 3 == 0 ? 3 : 25;
            flavour = seed % 7;
        }

        void go() {
            boolean right = true;
            for (int step = 0; made <= LAST_STEP_AT && right; step++) {
                right = step % STEPS_A_BEGINNING == 0 ? begin() : step();
            }
            if (!right) {
                wrong++;
            }
        }

        /** Weights of the run's flavour, as drawn calls alone seldom make rich ones. */
        private boolean begin() {
            boolean right = due("clear()", desk.clear(), slow.clear());
            int source = flavour < 4 ? flavour : random.nextInt(4);
            if (source == 0) {
                int points = 1 + random.nextInt(11);
                int least = random.nextInt(3) == 0 ? -99 : 1;
                for (int i = 0; i < points && right; i++) {
                    right = point(random.nextInt(19) - 9, least + random.nextInt(99 - least + 1));
                }
            } else if (source == 1) {
                right = tellMoments();
            } else {
                for (int i = 0; i < 2 && right; i++) {
                    right = source == 2 ? span() : counted();
                }
            }
            if (flavour == 4 || flavour == 6) {
                for (int i = random.nextInt(8); i >= 0 && right; i--) {
                    right = mirror(random.nextBoolean() ? pick(-9, 9) : random.nextBoolean() ? 9 : -9);
                }
            }
            if (flavour == 5 || flavour == 6) {
                for (int i = random.nextInt(10); i >= 0 && right; i--) {
                    right = by(random.nextBoolean() ? pick(-9, 9) : random.nextBoolean() ? 9 : -9);
                }
            }
            return right;
        }

        /** Either anything, or the moments of one or two points, of which the last ones are lost. */
        private boolean tellMoments() {
            boolean right = true;
            int most = random.nextInt(3) == 0 ? 1000000 : random.nextInt(3) == 0 ? 3 : 900;
            int x = random.nextInt(7) - 3;
            int far = random.nextInt(1400) - 700;
            int kind = random.nextInt(4);
            for (int k = 0; k <= 11 && right; k++) {
                int v = random.nextInt(2 * most + 1) - most;
                if (kind == 0) {
                    v = (int) Math.pow(x, k) + (k == 0 ? 1 : 0);
                } else if (kind == 1) {
                    v = Math.pow(far, k) > 900000 ? 0 : (int) Math.pow(far, k);
                } else if (kind == 2 && k % 2 == 0) {
                    v = Math.min(1000000, (int) Math.pow(4, k)) - random.nextInt(3);
                }
                right = moment(k, v);
            }
            return right;
        }

        private boolean point(int x, int weight) {
            return due("point(" + x + ", " + weight + ")", desk.point(x, weight), slow.point(x, weight));
        }

        private boolean moment(int k, int v) {
            return due("moment(" + k + ", " + v + ")", desk.moment(k, v), slow.moment(k, v));
        }

        private boolean span() {
            int a = pick(-9, 8);
            int b = pick(-8, 9);
            return due("span(" + a + ", " + b + ")", desk.span(a, b), slow.span(a, b));
        }

        private boolean counted() {
            int which = pick(0, 2);
            int n = pick(1, which == 0 ? 9 : 6);
            int u = pick(1, which == 1 ? 3 : 9);
            int v = pick(1, which == 1 ? 3 : 9);
            return due("counted(" + which + ", " + n + ", " + u + ", " + v + ")",
                desk.counted(which, n, u, v), slow.counted(which, n, u, v));
        }

        private boolean by(int c) {
            return due("by(" + c + ")", desk.by(c), slow.by(c));
        }

        private boolean mirror(int c) {
            return due("mirror(" + c + ")", desk.mirror(c), slow.mirror(c));
        }

        /** A number of the range, or now and then one at or beyond its edges. */
        private int pick(int low, int high) {
            if (random.nextInt(wild) == 0) {
                switch (random.nextInt(8)) {
                    case 0: return Integer.MIN_VALUE;
                    case 1: return Integer.MAX_VALUE;
                    case 2: return low - 1;
                    case 3: return high + 1;
                    case 4: return low;
                    case 5: return high;
                    case 6: return 0;
                    default: return random.nextInt();
                }
            }
            return low + random.nextInt(high - low + 1);
        }

        private boolean due(String call, long got, long want) {
            made++;
            calls.append(call).append(" = ").append(got).append('\n');
            if (got != want) {
                System.out.println("run " + seed + ": the last of these should answer " + want + "\n" + calls);
                return false;
            }
            return true;
        }

        private boolean step() {
            int kind = random.nextInt(100);
            if (kind < 12) {
                return change();
            }
            return kind < 65 ? lay() && hand() : ask();
        }

        private boolean change() {
            int place;
            switch (random.nextInt(9)) {
                case 0:
                    return point(pick(-9, 9), random.nextInt(3) == 0 ? pick(-99, 99) : pick(1, 9));
                case 1:
                    return moment(pick(0, 11), random.nextInt(3) == 0 ? pick(-1000000, 1000000) : pick(-3, 5));
                case 2:
                    return random.nextInt(5) == 0 ? span() : point(pick(-9, 9), pick(-99, 99));
                case 3:
                    return random.nextInt(5) == 0 ? counted() : moment(pick(0, 11), pick(-99, 99));
                case 4:
                    return mirror(pick(-9, 9));
                case 5:
                    return random.nextInt(5) == 0 ? due("clear()", desk.clear(), slow.clear()) : by(pick(-9, 9));
                case 6:
                    return by(pick(-9, 9));
                case 7:
                    place = pick(0, 1);
                    return due("keep(" + place + ")", desk.keep(place), slow.keep(place));
                default:
                    place = pick(0, 1);
                    return due("back(" + place + ")", desk.back(place), slow.back(place));
            }
        }

        private boolean lay() {
            int a, b, c;
            switch (random.nextInt(10)) {
                case 0:
                    a = pick(0, 11);
                    return due("layMoment(" + a + ")", desk.layMoment(a), slow.layMoment(a));
                case 1:
                    a = pick(0, 5);
                    return due("layWorth(" + a + ")", desk.layWorth(a), slow.layWorth(a));
                case 2:
                    a = pick(0, 6);
                    return due("layDeterminant(" + a + ")", desk.layDeterminant(a), slow.layDeterminant(a));
                case 3:
                    a = pick(0, 5); b = pick(0, 6);
                    return due("layNumber(" + a + ", " + b + ")", desk.layNumber(a, b), slow.layNumber(a, b));
                case 4:
                    a = pick(0, 4); b = pick(0, 1);
                    return due("layRule(" + a + ", " + b + ")", desk.layRule(a, b), slow.layRule(a, b));
                case 5:
                    a = pick(0, 5); b = pick(-1000000, 1000000); c = random.nextBoolean() ? pick(1, 9) : pick(1, 1000000);
                    return due("layValue(" + a + ", " + b + ", " + c + ")", desk.layValue(a, b, c), slow.layValue(a, b, c));
                case 6:
                    a = pick(0, 5); b = random.nextInt(3) == 0 ? a : pick(0, 5);
                    return due("layProduct(" + a + ", " + b + ")", desk.layProduct(a, b), slow.layProduct(a, b));
                case 7:
                    a = pick(0, 11); b = pick(0, 5);
                    return due("layShare(" + a + ", " + b + ")", desk.layShare(a, b), slow.layShare(a, b));
                case 8:
                    a = pick(0, 5); b = pick(-1000, 1000); c = pick(-9, 9);
                    return due("layKernel(" + a + ", " + b + ", " + c + ")", desk.layKernel(a, b, c), slow.layKernel(a, b, c));
                default:
                    a = pick(1, 5); b = pick(0, 11);
                    return due("layLeft(" + a + ", " + b + ")", desk.layLeft(a, b), slow.layLeft(a, b));
            }
        }

        /** Not each time, as numbers that were never asked for must be right later too. */
        private boolean hand() {
            if (random.nextInt(3) == 0) {
                return true;
            }
            for (int what = 0; what < 2; what++) {
                if (!due("bits(" + what + ")", desk.bits(what), slow.bits(what))) {
                    return false;
                }
                int words = slow.bits(what) / 16 + 2;
                for (int i = 0; i < words && i < MOST_WORDS; i++) {
                    int k = words <= MOST_WORDS ? i : random.nextInt(words);
                    if (!due("word(" + what + ", " + k + ")", desk.word(what, k), slow.word(what, k))) {
                        return false;
                    }
                }
            }
            return true;
        }

        private boolean ask() {
            int a, b, c;
            switch (random.nextInt(11)) {
                case 0:
                    return due("sign()", desk.sign(), slow.sign());
                case 1:
                    a = pick(0, 1);
                    return due("bits(" + a + ")", desk.bits(a), slow.bits(a));
                case 2:
                    a = pick(0, 1); b = pick(0, 9);
                    return due("word(" + a + ", " + b + ")", desk.word(a, b), slow.word(a, b));
                case 3:
                    a = pick(-20, 20); b = pick(1, 5);
                    return due("against(" + a + ", " + b + ")", desk.against(a, b), slow.against(a, b));
                case 4:
                    a = pick(0, 5); b = pick(-40, 40); c = pick(1, 5);
                    return due("below(" + a + ", " + b + ", " + c + ")", desk.below(a, b, c), slow.below(a, b, c));
                case 5:
                case 6:
                    a = pick(1, 5); b = pick(0, 4); c = pick(0, 10);
                    return due("shut(" + a + ", " + b + ", " + c + ")", desk.shut(a, b, c), slow.shut(a, b, c));
                case 7:
                    return due("good()", desk.good(), slow.good());
                case 8:
                    return due("few()", desk.few(), slow.few());
                case 9:
                    a = pick(0, 4);
                    return due("told(" + a + ")", desk.told(a), slow.told(a));
                default:
                    a = pick(0, 1);
                    return due("differs(" + a + ")", desk.differs(a), slow.differs(a));
            }
        }
    }

    /** A fraction in lowest terms. */
    private static final class Fraction {
        static final Fraction ZERO = new Fraction(BigInteger.ZERO, BigInteger.ONE);
        static final Fraction ONE = new Fraction(BigInteger.ONE, BigInteger.ONE);
        final BigInteger upper, lower;

        Fraction(BigInteger upper, BigInteger lower) {
            BigInteger common = upper.gcd(lower);
            if (lower.signum() < 0) {
                common = common.negate();
            }
            this.upper = upper.divide(common);
            this.lower = lower.divide(common);
        }

        static Fraction of(long upper, long lower) {
            return new Fraction(BigInteger.valueOf(upper), BigInteger.valueOf(lower));
        }

        Fraction plus(Fraction more) {
            return new Fraction(upper.multiply(more.lower).add(more.upper.multiply(lower)), lower.multiply(more.lower));
        }

        Fraction less(Fraction taken) {
            return plus(new Fraction(taken.upper.negate(), taken.lower));
        }

        Fraction times(Fraction factor) {
            return new Fraction(upper.multiply(factor.upper), lower.multiply(factor.lower));
        }

        Fraction by(Fraction divisor) {
            return new Fraction(upper.multiply(divisor.lower), lower.multiply(divisor.upper));
        }

        int sign() {
            return upper.signum();
        }

        boolean same(Fraction with) {
            return upper.equals(with.upper) && lower.equals(with.lower);
        }
    }

    /** What is known of weights. */
    private static final class Told {
        int kind = 0, last = 11;
        boolean changed = false;
        TreeMap<Integer, Integer> points = new TreeMap<>();
        BigInteger[] moments = new BigInteger[12];

        Told() {
            Arrays.fill(moments, BigInteger.ZERO);
        }

        Told copy() {
            Told copy = new Told();
            copy.kind = kind;
            copy.last = last;
            copy.changed = changed;
            copy.points = new TreeMap<>(points);
            copy.moments = moments.clone();
            return copy;
        }

        Fraction of(Fraction[] poly) {
            Fraction sum = Fraction.ZERO;
            for (int i = 0; i < poly.length; i++) {
                sum = sum.plus(poly[i].times(new Fraction(moments[i], BigInteger.ONE)));
            }
            return sum;
        }

        /** By taking off x to the k its shares of all before; null where it is not there. */
        Fraction[][] polys() {
            Fraction[][] polys = new Fraction[6][];
            polys[0] = new Fraction[] {Fraction.ONE};
            for (int k = 1; k <= 5 && 2 * k - 1 <= last; k++) {
                if (worth(polys, k - 1).sign() == 0) {
                    break;
                }
                Fraction[] power = power(k);
                Fraction[] poly = power;
                for (int j = 0; j < k; j++) {
                    Fraction share = of(product(power, polys[j])).by(worth(polys, j));
                    poly = less(poly, product(polys[j], new Fraction[] {share}));
                }
                polys[k] = poly;
            }
            return polys;
        }

        Fraction worth(Fraction[][] polys, int k) {
            return of(product(polys[k], polys[k]));
        }
    }

    private static Fraction[] power(int k) {
        Fraction[] power = new Fraction[k + 1];
        Arrays.fill(power, Fraction.ZERO);
        power[k] = Fraction.ONE;
        return power;
    }

    private static Fraction[] product(Fraction[] a, Fraction[] b) {
        Fraction[] product = new Fraction[a.length + b.length - 1];
        Arrays.fill(product, Fraction.ZERO);
        for (int i = 0; i < a.length; i++) {
            for (int j = 0; j < b.length; j++) {
                product[i + j] = product[i + j].plus(a[i].times(b[j]));
            }
        }
        return product;
    }

    private static Fraction[] less(Fraction[] a, Fraction[] b) {
        Fraction[] found = new Fraction[Math.max(a.length, b.length)];
        for (int i = 0; i < found.length; i++) {
            Fraction left = i < a.length ? a[i] : Fraction.ZERO;
            found[i] = left.less(i < b.length ? b[i] : Fraction.ZERO);
        }
        return found;
    }

    private static Fraction valueAt(Fraction[] poly, Fraction x) {
        Fraction value = Fraction.ZERO;
        for (int i = poly.length - 1; i >= 0; i--) {
            value = value.times(x).plus(poly[i]);
        }
        return value;
    }

    /** What is left of a by b, whose highest number is not 0. */
    private static Fraction[] remainder(Fraction[] a, Fraction[] b) {
        Fraction[] rest = a.clone();
        for (int i = a.length - b.length; i >= 0; i--) {
            Fraction factor = rest[i + b.length - 1].by(b[b.length - 1]);
            for (int j = 0; j < b.length; j++) {
                rest[i + j] = rest[i + j].less(factor.times(b[j]));
            }
        }
        return trimmed(rest);
    }

    private static Fraction[] trimmed(Fraction[] poly) {
        int size = poly.length;
        while (size > 0 && poly[size - 1].sign() == 0) {
            size--;
        }
        return Arrays.copyOf(poly, size);
    }

    /** Sturm's count with the poly's own slope, not with the polys before it. */
    private static int rootsBelow(Fraction[] poly, Fraction x) {
        if (poly.length < 2) {
            return 0;
        }
        Fraction[] one = poly;
        Fraction[] two = new Fraction[poly.length - 1];
        for (int i = 1; i < poly.length; i++) {
            two[i - 1] = poly[i].times(Fraction.of(i, 1));
        }
        int farSign = 0, farTurns = 0, nearSign = 0, nearTurns = 0;
        while (one.length > 0) {
            int far = one[one.length - 1].sign() * (one.length % 2 == 0 ? -1 : 1);
            int near = valueAt(one, x).sign();
            if (far * farSign < 0) {
                farTurns++;
            }
            farSign = far != 0 ? far : farSign;
            if (near * nearSign < 0) {
                nearTurns++;
            }
            nearSign = near != 0 ? near : nearSign;
            Fraction[] next = two.length == 0 ? two : less(new Fraction[0], remainder(one, two));
            one = two;
            two = next;
        }
        return farTurns - nearTurns - (valueAt(poly, x).sign() == 0 ? 1 : 0);
    }

    private static BigInteger determinant(BigInteger[][] rows) {
        if (rows.length == 0) {
            return BigInteger.ONE;
        }
        BigInteger sum = BigInteger.ZERO;
        for (int column = 0; column < rows.length; column++) {
            BigInteger[][] smaller = new BigInteger[rows.length - 1][rows.length - 1];
            for (int i = 1; i < rows.length; i++) {
                for (int j = 0, at = 0; j < rows.length; j++) {
                    if (j != column) {
                        smaller[i - 1][at++] = rows[i][j];
                    }
                }
            }
            BigInteger part = rows[0][column].signum() == 0 ? BigInteger.ZERO : rows[0][column].multiply(determinant(smaller));
            sum = column % 2 == 0 ? sum.add(part) : sum.subtract(part);
        }
        return sum;
    }

    private static BigInteger over(int n, int x) {
        if (x < 0 || x > n) {
            return BigInteger.ZERO;
        }
        return x == 0 || x == n ? BigInteger.ONE : over(n - 1, x - 1).add(over(n - 1, x));
    }

    /** The document's words, as slowly and plainly as they can be said. */
    private static final class SlowDesk {
        private Told now = new Told();
        private final Told[] kept = new Told[2];
        private Fraction hand = Fraction.ZERO;
        private Fraction[][] polys = null;

        private Fraction[][] polys() {
            if (polys == null) {
                polys = now.polys();
            }
            return polys;
        }

        private boolean has(int k) {
            return k >= 0 && k <= 5 && polys()[k] != null;
        }

        private boolean hasWorth(int k) {
            return has(k) && 2 * k <= now.last;
        }

        private int lay(Fraction fraction) {
            hand = fraction;
            return sign();
        }

        private static boolean size(int v, int most) {
            return Math.abs((long) v) <= most;
        }

        private static boolean fraction(int u, int v) {
            return size(u, 1000000) && v >= 1 && v <= 1000000;
        }

        private void list(int x, BigInteger weight) {
            for (int k = 0; k <= 11; k++) {
                now.moments[k] = now.moments[k].add(weight.multiply(BigInteger.valueOf(x).pow(k)));
            }
        }

        int clear() {
            int last = now.last;
            now = new Told();
            polys = null;
            return last;
        }

        int point(int x, int weight) {
            if (!size(x, 9) || !size(weight, 99) || weight == 0) return -2;
            if (now.kind != 0 || now.changed) return -3;
            if (!now.points.containsKey(x) && now.points.size() == 10) return -4;
            int sum = now.points.getOrDefault(x, 0) + weight;
            if (!size(sum, 99)) return -5;
            now.points.put(x, sum);
            if (sum == 0) now.points.remove(x);
            Arrays.fill(now.moments, BigInteger.ZERO);
            now.points.forEach((at, w) -> list(at, BigInteger.valueOf(w)));
            polys = null;
            return now.points.size();
        }

        int moment(int k, int v) {
            if (k < 0 || k > 11) return -1;
            if (!size(v, 1000000)) return -2;
            if (now.changed || now.kind > 1 || now.kind == 0 && !now.points.isEmpty()) return -3;
            now.kind = 1;
            now.moments[k] = BigInteger.valueOf(v);
            polys = null;
            int count = 0;
            for (BigInteger moment : now.moments) {
                count += moment.signum() == 0 ? 0 : 1;
            }
            return count;
        }

        int span(int a, int b) {
            if (a < -9 || a >= b || b > 9) return -2;
            clear();
            now.kind = 2;
            for (int k = 0; k <= 11; k++) {
                BigInteger width = BigInteger.valueOf(b).pow(k + 1).subtract(BigInteger.valueOf(a).pow(k + 1));
                now.moments[k] = width.multiply(BigInteger.valueOf(27720)).divide(BigInteger.valueOf(k + 1));
            }
            return 1;
        }

        int counted(int which, int n, int u, int v) {
            if (which < 0 || which > 2 || n < 1 || n > (which == 0 ? 9 : 6)) return -2;
            int most = which == 1 ? 3 : 9;
            if (which > 0 && (u < 1 || u > most || v < 1 || v > most)) return -2;
            if (which == 2 && u + v < n) return -2;
            clear();
            now.kind = 3;
            int count = 0;
            for (int x = 0; x <= n; x++) {
                BigInteger weight = BigInteger.ONE;
                if (which == 1) {
                    weight = over(n, x).multiply(BigInteger.valueOf(u).pow(x)).multiply(BigInteger.valueOf(v).pow(n - x));
                } else if (which == 2) {
                    weight = over(u, x).multiply(over(v, n - x));
                }
                list(x, weight);
                count += weight.signum() == 0 ? 0 : 1;
            }
            return count;
        }

        private boolean change(BigInteger[] moments, int last) {
            for (BigInteger moment : moments) {
                if (moment.abs().compareTo(BigInteger.TWO.pow(62)) >= 0) return false;
            }
            now.moments = moments;
            now.last = last;
            now.changed = true;
            polys = null;
            return true;
        }

        int by(int c) {
            if (!size(c, 9)) return -2;
            if (now.last == 3) return -3;
            BigInteger[] moments = new BigInteger[12];
            Arrays.fill(moments, BigInteger.ZERO);
            for (int k = 0; k < now.last; k++) {
                moments[k] = now.moments[k + 1].subtract(now.moments[k].multiply(BigInteger.valueOf(c)));
            }
            return change(moments, now.last - 1) ? now.last : -4;
        }

        int mirror(int c) {
            if (!size(c, 9)) return -2;
            BigInteger[] moments = new BigInteger[12];
            Arrays.fill(moments, BigInteger.ZERO);
            Fraction[] power = {Fraction.ONE};
            for (int k = 0; k <= now.last; k++) {
                moments[k] = now.of(power).upper;
                power = product(power, new Fraction[] {Fraction.of(c, 1), Fraction.of(-1, 1)});
            }
            return change(moments, now.last) ? 1 : -4;
        }

        int layMoment(int k) {
            return k < 0 || k > now.last ? -1 : lay(new Fraction(now.moments[k], BigInteger.ONE));
        }

        int layWorth(int k) {
            return hasWorth(k) ? lay(now.worth(polys(), k)) : -1;
        }

        int layDeterminant(int k) {
            if (k < 0 || k > 6 || 2 * k - 2 > now.last) return -1;
            BigInteger[][] rows = new BigInteger[k][k];
            for (int i = 0; i < k; i++) {
                for (int j = 0; j < k; j++) {
                    rows[i][j] = now.moments[i + j];
                }
            }
            return lay(new Fraction(determinant(rows), BigInteger.ONE));
        }

        int layNumber(int k, int i) {
            if (!has(k) || i < 0) return -1;
            return lay(i > k ? Fraction.ZERO : polys()[k][i]);
        }

        /** A(k), B(k) by what the rule of three lines leaves of P(k + 1), x P(k) and P(k - 1). */
        int layRule(int k, int which) {
            if (k < 0 || k > 4 || !has(k + 1)) return -1;
            if (which != 0 && which != 1) return -2;
            Fraction[] stepped = product(polys()[k], power(1));
            Fraction[] rest = less(stepped, polys()[k + 1]);
            Fraction a = rest[k];
            if (which == 0) return lay(a);
            if (k == 0) return lay(now.worth(polys(), 0));
            return lay(less(rest, product(polys()[k], new Fraction[] {a}))[k - 1]);
        }

        int layValue(int k, int u, int v) {
            if (!has(k)) return -1;
            if (!fraction(u, v)) return -2;
            return lay(valueAt(polys()[k], Fraction.of(u, v)));
        }

        int layProduct(int i, int j) {
            if (!has(i) || !has(j) || i + j > now.last) return -1;
            return lay(now.of(product(polys()[i], polys()[j])));
        }

        int layShare(int d, int k) {
            if (!hasWorth(k) || d < 0 || (long) d + k > now.last) return -1;
            Fraction worth = now.worth(polys(), k);
            if (worth.sign() == 0) return -5;
            return lay(now.of(product(power(d), polys()[k])).by(worth));
        }

        int layKernel(int n, int x, int y) {
            if (!hasWorth(n)) return -1;
            if (!size(x, 1000) || !size(y, 1000)) return -2;
            Fraction sum = Fraction.ZERO;
            for (int k = 0; k <= n; k++) {
                Fraction worth = now.worth(polys(), k);
                if (worth.sign() == 0) return -5;
                Fraction part = valueAt(polys()[k], Fraction.of(x, 1)).times(valueAt(polys()[k], Fraction.of(y, 1)));
                sum = sum.plus(part.by(worth));
            }
            return lay(sum);
        }

        int layLeft(int n, int d) {
            if (!has(n) || n == 0 || d < 0 || d > now.last) return -1;
            return lay(now.of(power(d)).less(now.of(remainder(power(d), polys()[n]))));
        }

        int sign() {
            return hand.sign() < 0 ? 2 : hand.sign();
        }

        private BigInteger part(int what) {
            return what == 0 ? hand.upper.abs() : hand.lower;
        }

        int bits(int what) {
            return what < 0 || what > 1 ? -2 : part(what).bitLength();
        }

        int word(int what, int k) {
            if (what < 0 || what > 1 || k < 0) return -2;
            return k > 10000 ? 0 : part(what).shiftRight(16 * k).and(BigInteger.valueOf(65535)).intValue();
        }

        int against(int u, int v) {
            return fraction(u, v) ? hand.less(Fraction.of(u, v)).sign() : -20;
        }

        int below(int k, int u, int v) {
            if (!has(k)) return -1;
            if (!fraction(u, v)) return -2;
            if (good() < k) return -5;
            return rootsBelow(polys()[k], Fraction.of(u, v));
        }

        int shut(int k, int i, int d) {
            if (!has(k) || i < 0 || i >= k) return -3000001;
            if (d < 0 || d > 10) return -3000002;
            if (good() < k) return -3000005;
            int parts = 1 << d;
            int low = -512 * parts, high = 512 * parts;
            if (rootsBelow(polys()[k], Fraction.of(-512, 1)) > i) return -2000001;
            if (rootsBelow(polys()[k], Fraction.of(512, 1)) <= i) return -2000001;
            while (high - low > 1) {
                int middle = Math.floorDiv(low + high, 2);
                if (rootsBelow(polys()[k], Fraction.of(middle, parts)) <= i) {
                    low = middle;
                } else {
                    high = middle;
                }
            }
            return low;
        }

        int good() {
            int k = 0;
            while (hasWorth(k) && now.worth(polys(), k).sign() > 0) {
                k++;
            }
            return k;
        }

        int few() {
            int k = good();
            if (!hasWorth(k) || now.worth(polys(), k).sign() != 0) return -6;
            for (int i = 0; k + i <= now.last; i++) {
                if (now.of(product(polys()[k], power(i))).sign() != 0) return -6;
            }
            return k;
        }

        int told(int what) {
            switch (what) {
                case 0: return now.kind;
                case 1: return now.last;
                case 2: return now.points.size();
                case 3: return now.changed ? 1 : 0;
                case 4:
                    int top = 0;
                    while (has(top + 1)) {
                        top++;
                    }
                    return top;
                default: return -2;
            }
        }

        int keep(int place) {
            if (place < 0 || place > 1) return -1;
            kept[place] = now.copy();
            return 1;
        }

        int back(int place) {
            if (place < 0 || place > 1 || kept[place] == null) return -1;
            now = kept[place].copy();
            polys = null;
            return now.last;
        }

        int differs(int place) {
            if (place < 0 || place > 1 || kept[place] == null) return -1;
            Fraction[][] there = kept[place].polys();
            for (int k = 0; k <= 5; k++) {
                if ((there[k] == null) != (polys()[k] == null)) return k;
                for (int i = 0; there[k] != null && i <= k; i++) {
                    if (!there[k][i].same(polys()[k][i])) return k;
                }
            }
            return -6;
        }
    }
}
