import java.util.Arrays;

/** A desk for polynomials each of which is square to all before it; each number is an exact fraction. */
public final class MomentDesk {
    public static final int UNKNOWN = -1, OUTSIDE = -2, STATE = -3, FULL = -4, NO = -5, NONE = -6;

    private static final int LIST = 0, TOLD = 1, SPAN = 2, COUNTED = 3;
    private static final int EVEN = 0, COINS = 1, PICKS = 2;
    private static final int FIRST_LAST = 11, LEAST_LAST = 3;
    private static final int MOST_DEGREE = 5, MOST_ROWS = 6;
    private static final int MOST_X = 9, MOST_WEIGHT = 99, MOST_POINTS = 10;
    private static final int MOST_TOLD = 1000000, MOST_PART = 1000000, MOST_KERNEL_X = 1000;
    private static final int MOMENT_BITS = 62;
    private static final int SPAN_FACTOR = 27720;
    private static final int ABOVE_ZERO = 1, BELOW_ZERO = 2;
    private static final int AGAINST_OUTSIDE = -20;
    private static final int SHUT_BEYOND = -2000001, SHUT_REFUSED = -3000000;
    private static final int SHUT_END = 512, MOST_HALVINGS = 10;
    private static final int PLACES = 2;
    /** The longest fraction, that of layLeft(), needs some 1240 bits: 40 parts hold it. */
    private static final int WORK_ROOM = 40;

    private final Weights weights = new Weights();
    private final Weights[] kept = new Weights[PLACES];
    private final boolean[] isKept = new boolean[PLACES];
    private final Hand hand = new Hand();
    private final long[] changedMoments = new long[FIRST_LAST + 1];
    /** The numbers of x to the d by P(n), the highest first, as layLeft() wants them. */
    private final Big[] quotient = new Big[FIRST_LAST - 1];
    private final Big sum = new Big(WORK_ROOM);
    private final Big one = new Big(WORK_ROOM);
    private final Big other = new Big(WORK_ROOM);
    private final Big spare = new Big(WORK_ROOM);

    public MomentDesk() {
        for (int place = 0; place < PLACES; place++) {
            kept[place] = new Weights();
        }
        for (int j = 0; j < quotient.length; j++) {
            quotient[j] = new Big(WORK_ROOM);
        }
    }

    // ---- 1 weights

    public int clear() {
        int before = weights.last;
        weights.begin(LIST);
        return before;
    }

    public int point(int x, int weight) {
        if (!isWithin(x, MOST_X) || weight == 0 || !isWithin(weight, MOST_WEIGHT)) {
            return OUTSIDE;
        }
        if (weights.kind != LIST || weights.changed) {
            return STATE;
        }
        int before = weights.weightAt[x + MOST_X];
        if (before == 0 && weights.points >= MOST_POINTS) {
            return FULL;
        }
        if (!isWithin(before + weight, MOST_WEIGHT)) {
            return NO;
        }
        weights.addPoint(x, weight);
        return weights.points;
    }

    public int moment(int k, int v) {
        if (k < 0 || k > FIRST_LAST) {
            return UNKNOWN;
        }
        if (!isWithin(v, MOST_TOLD)) {
            return OUTSIDE;
        }
        boolean bare = weights.kind == LIST && weights.points == 0;
        if (weights.changed || !(bare || weights.kind == TOLD)) {
            return STATE;
        }
        weights.tellMoment(k, v);
        return weights.momentsNotZero();
    }

    public int span(int a, int b) {
        if (a < -MOST_X || a >= b || b > MOST_X) {
            return OUTSIDE;
        }
        weights.begin(SPAN);
        weights.spread(a, b);
        return 1;
    }

    public int counted(int which, int n, int u, int v) {
        if (!isCountable(which, n, u, v)) {
            return OUTSIDE;
        }
        weights.begin(COUNTED);
        int found = 0;
        for (int x = 0; x <= n; x++) {
            long weight = countedWeight(which, n, u, v, x);
            weights.addToMoments(x, weight);
            if (weight != 0) {
                found++;
            }
        }
        return found;
    }

    public int by(int c) {
        if (!isWithin(c, MOST_X)) {
            return OUTSIDE;
        }
        if (weights.last <= LEAST_LAST) {
            return STATE;
        }
        int last = weights.last - 1;
        for (int k = 0; k <= last; k++) {
            sum.setLong(weights.moments[k + 1]);
            addMomentTimes(k, -c);
            if (!takesSumAsMoment(k)) {
                return FULL;
            }
        }
        weights.change(changedMoments, last);
        return last;
    }

    public int mirror(int c) {
        if (!isWithin(c, MOST_X)) {
            return OUTSIDE;
        }
        for (int k = 0; k <= weights.last; k++) {
            sum.setLong(0);
            for (int j = 0; j <= k; j++) {
                long factor = ways(k, j) * power(c, k - j);
                addMomentTimes(j, (j & 1) == 0 ? factor : -factor);
            }
            if (!takesSumAsMoment(k)) {
                return FULL;
            }
        }
        weights.change(changedMoments, weights.last);
        return 1;
    }

    // ---- 2 what lays a fraction in the hand

    public int layMoment(int k) {
        if (k < 0 || k > weights.last) {
            return UNKNOWN;
        }
        return hand.layWhole(weights.moments[k]);
    }

    public int layWorth(int k) {
        Polys polys = weights.polys();
        if (!polys.hasWorth(k)) {
            return UNKNOWN;
        }
        return hand.lay(polys.determinant(k + 1), polys.determinant(k));
    }

    public int layDeterminant(int k) {
        if (k < 0 || k > MOST_ROWS || 2 * k - 2 > weights.last) {
            return UNKNOWN;
        }
        one.setLong(1);
        return hand.lay(weights.polys().determinant(k), one);
    }

    public int layNumber(int k, int i) {
        Polys polys = weights.polys();
        if (!polys.has(k) || i < 0) {
            return UNKNOWN;
        }
        if (i > k) {
            return hand.layWhole(0);
        }
        return hand.lay(polys.number(k, i), polys.determinant(k));
    }

    public int layRule(int k, int which) {
        Polys polys = weights.polys();
        if (k < 0 || k >= polys.top) {
            return UNKNOWN;
        }
        if (which != 0 && which != 1) {
            return OUTSIDE;
        }
        return which == 0 ? layRuleA(polys, k) : layRuleB(polys, k);
    }

    public int layValue(int k, int u, int v) {
        Polys polys = weights.polys();
        if (!polys.has(k)) {
            return UNKNOWN;
        }
        if (!isFraction(u, v)) {
            return OUTSIDE;
        }
        polys.evaluate(one, k, u, v);
        other.setBig(polys.determinant(k));
        for (int i = 0; i < k; i++) {
            other.timesInt(v);
        }
        return hand.lay(one, other);
    }

    public int layProduct(int i, int j) {
        Polys polys = weights.polys();
        if (!polys.has(i) || !polys.has(j) || i + j > weights.last) {
            return UNKNOWN;
        }
        // the later of two different ones is square to the earlier
        return i == j ? hand.lay(polys.determinant(i + 1), polys.determinant(i)) : hand.layWhole(0);
    }

    public int layShare(int d, int k) {
        Polys polys = weights.polys();
        if (!polys.hasWorth(k) || d < 0 || d > weights.last - k) {
            return UNKNOWN;
        }
        if (polys.worthSign(k) == 0) {
            return NO;
        }
        polys.setOf(sum, k, d);
        return hand.lay(sum, polys.determinant(k + 1));
    }

    public int layKernel(int n, int x, int y) {
        Polys polys = weights.polys();
        if (!polys.hasWorth(n)) {
            return UNKNOWN;
        }
        if (!isWithin(x, MOST_KERNEL_X) || !isWithin(y, MOST_KERNEL_X)) {
            return OUTSIDE;
        }
        if (polys.worthSign(n) == 0) {
            return NO;
        }
        // the kernel up to k is a whole number by determinant k + 1, so that each division here leaves nothing
        sum.setLong(0);
        for (int k = 0; k <= n; k++) {
            sum.times(polys.determinant(k + 1), spare);
            polys.evaluate(one, k, x, 1);
            polys.evaluate(other, k, y, 1);
            sum.addProduct(one, other, spare);
            sum.divideWhole(polys.determinant(k), spare);
        }
        return hand.lay(sum, polys.determinant(n + 1));
    }

    public int layLeft(int n, int d) {
        Polys polys = weights.polys();
        if (n == 0 || !polys.has(n) || d < 0 || d > weights.last) {
            return UNKNOWN;
        }
        // what is taken off x to the d is P(n) times a quotient, of which powers below n give 0
        int steps = d - 2 * n;
        if (steps < 0) {
            return hand.layWhole(0);
        }
        setQuotient(polys, n, steps);
        Big lead = polys.determinant(n);
        sum.setLong(0);
        other.setLong(1);
        for (int j = 0; j <= steps; j++) {
            sum.times(lead, spare);
            other.times(lead, spare);
            polys.setOf(one, n, d - n - j);
            sum.addProduct(quotient[j], one, spare);
        }
        return hand.lay(sum, other);
    }

    // ---- 3 the hand

    public int sign() {
        return hand.signAnswer();
    }

    public int bits(int what) {
        if (what != 0 && what != 1) {
            return OUTSIDE;
        }
        return hand.lowestPart(what).bitLength();
    }

    public int word(int what, int k) {
        if ((what != 0 && what != 1) || k < 0) {
            return OUTSIDE;
        }
        return hand.lowestPart(what).sixteenBits(k);
    }

    public int against(int u, int v) {
        if (!isFraction(u, v)) {
            return AGAINST_OUTSIDE;
        }
        one.setBig(hand.upper);
        one.timesInt(v);
        other.setBig(hand.lower);
        other.timesInt(u);
        one.take(other);
        return one.signum();
    }

    // ---- 4 roots and weights

    public int below(int k, int u, int v) {
        Polys polys = weights.polys();
        if (!polys.has(k)) {
            return UNKNOWN;
        }
        if (!isFraction(u, v)) {
            return OUTSIDE;
        }
        if (polys.goodWorths() < k) {
            return NO;
        }
        return rootsBelow(polys, k, u, v);
    }

    public int shut(int k, int i, int d) {
        Polys polys = weights.polys();
        if (!polys.has(k) || i < 0 || i >= k) {
            return SHUT_REFUSED + UNKNOWN;
        }
        if (d < 0 || d > MOST_HALVINGS) {
            return SHUT_REFUSED + OUTSIDE;
        }
        if (polys.goodWorths() < k) {
            return SHUT_REFUSED + NO;
        }
        int parts = 1 << d;
        int low = -SHUT_END * parts;
        int high = SHUT_END * parts;
        if (rootsBelow(polys, k, low, parts) > i || rootsBelow(polys, k, high, parts) <= i) {
            return SHUT_BEYOND;
        }
        // root i is not below low and below high; there are at most 2 to the 20 steps between them
        for (int step = 0; step < 32 && high - low > 1; step++) {
            int middle = (low + high) >> 1;
            if (rootsBelow(polys, k, middle, parts) > i) {
                high = middle;
            } else {
                low = middle;
            }
        }
        return low;
    }

    public int good() {
        return weights.polys().goodWorths();
    }

    public int few() {
        Polys polys = weights.polys();
        int k = polys.goodWorths();
        if (!polys.hasWorth(k) || polys.worthSign(k) != 0) {
            return NONE;
        }
        for (int i = 0; i <= weights.last - k; i++) {
            polys.setOf(sum, k, i);
            if (sum.signum() != 0) {
                return NONE;
            }
        }
        return k;
    }

    public int told(int what) {
        switch (what) {
            case 0:
                return weights.kind;
            case 1:
                return weights.last;
            case 2:
                return weights.points;
            case 3:
                return weights.changed ? 1 : 0;
            case 4:
                return weights.polys().top;
            default:
                return OUTSIDE;
        }
    }

    // ---- 5 kept weights

    public int keep(int place) {
        if (place < 0 || place >= PLACES) {
            return UNKNOWN;
        }
        kept[place].copyFrom(weights);
        isKept[place] = true;
        return 1;
    }

    public int back(int place) {
        if (!isKeptAt(place)) {
            return UNKNOWN;
        }
        weights.copyFrom(kept[place]);
        return weights.last;
    }

    public int differs(int place) {
        if (!isKeptAt(place)) {
            return UNKNOWN;
        }
        Polys here = weights.polys();
        Polys there = kept[place].polys();
        for (int k = 1; k <= MOST_DEGREE; k++) {
            if (!here.has(k) && !there.has(k)) {
                return NONE;
            }
            if (!here.has(k) || !there.has(k) || !isSamePoly(here, there, k)) {
                return k;
            }
        }
        return NONE;
    }

    // ---- helpers

    private static boolean isWithin(int value, int most) {
        return value >= -most && value <= most;
    }

    private static boolean isFraction(int u, int v) {
        return isWithin(u, MOST_PART) && v >= 1 && v <= MOST_PART;
    }

    private boolean isKeptAt(int place) {
        return place >= 0 && place < PLACES && isKept[place];
    }

    private static boolean isCountable(int which, int n, int u, int v) {
        switch (which) {
            case EVEN:
                return n >= 1 && n <= 9;
            case COINS:
                return n >= 1 && n <= 6 && u >= 1 && u <= 3 && v >= 1 && v <= 3;
            case PICKS:
                return n >= 1 && n <= 6 && u >= 1 && u <= 9 && v >= 1 && v <= 9 && u + v >= n;
            default:
                return false;
        }
    }

    private static long countedWeight(int which, int n, int u, int v, int x) {
        switch (which) {
            case COINS:
                return ways(n, x) * power(u, x) * power(v, n - x);
            case PICKS:
                return ways(u, x) * ways(v, n - x);
            default:
                return 1;
        }
    }

    private static long ways(int n, int x) {
        if (x < 0 || x > n) {
            return 0;
        }
        long found = 1;
        for (int i = 0; i < x; i++) {
            found = found * (n - i) / (i + 1);
        }
        return found;
    }

    private static long power(int base, int exponent) {
        long found = 1;
        for (int i = 0; i < exponent; i++) {
            found *= base;
        }
        return found;
    }

    private void addMomentTimes(int k, long factor) {
        one.setLong(weights.moments[k]);
        other.setLong(factor);
        sum.addProduct(one, other, spare);
    }

    /** Kept aside, not in the weights, because a later moment may still refuse the whole call. */
    private boolean takesSumAsMoment(int k) {
        if (sum.bitLength() > MOMENT_BITS) {
            return false;
        }
        changedMoments[k] = sum.toLong();
        return true;
    }

    /** The second highest numbers of P(k) and P(k + 1) differ by A(k). */
    private int layRuleA(Polys polys, int k) {
        Big lead = polys.determinant(k);
        Big nextLead = polys.determinant(k + 1);
        sum.setLong(0);
        if (k > 0) {
            sum.addProduct(polys.number(k, k - 1), nextLead, spare);
        }
        one.setProduct(polys.number(k + 1, k), lead);
        sum.take(one);
        other.setProduct(lead, nextLead);
        return hand.lay(sum, other);
    }

    /** B(k) is WORTH(k) by WORTH(k - 1). */
    private int layRuleB(Polys polys, int k) {
        if (k == 0) {
            return hand.lay(polys.determinant(1), polys.determinant(0));
        }
        one.setProduct(polys.determinant(k + 1), polys.determinant(k - 1));
        other.setProduct(polys.determinant(k), polys.determinant(k));
        return hand.lay(one, other);
    }

    /** Number j, times determinant n to the j, so that it is whole. */
    private void setQuotient(Polys polys, int n, int steps) {
        Big lead = polys.determinant(n);
        quotient[0].setLong(1);
        for (int j = 1; j <= steps && j < quotient.length; j++) {
            Big number = quotient[j];
            number.setLong(0);
            for (int i = Math.min(j, n); i >= 1; i--) {
                number.times(lead, spare);
                number.addProduct(polys.number(n, n - i), quotient[j - i], spare);
            }
            number.negate();
        }
    }

    /** With all worths above 0, P(0) to P(k) change their sign at u / v once for each root of P(k) above it. */
    private int rootsBelow(Polys polys, int k, int u, int v) {
        int above = 0;
        int before = 1;
        int now = 1;
        for (int i = 1; i <= k; i++) {
            polys.evaluate(one, i, u, v);
            now = one.signum();
            if (now == -before) {
                above++;
                before = now;
            }
        }
        return k - above - (now == 0 ? 1 : 0);
    }

    private boolean isSamePoly(Polys here, Polys there, int k) {
        for (int i = 0; i < k; i++) {
            one.setProduct(here.number(k, i), there.determinant(k));
            other.setProduct(there.number(k, i), here.determinant(k));
            one.take(other);
            if (one.signum() != 0) {
                return false;
            }
        }
        return true;
    }

    /** All that is told of weights, their moments, and the polynomials that follow from these. */
    private static final class Weights {
        int kind = LIST;
        int last = FIRST_LAST;
        int points;
        boolean changed;
        /** By x + 9; 0 where no point of the list is. */
        final int[] weightAt = new int[2 * MOST_X + 1];
        /** Those beyond last mean nothing. */
        final long[] moments = new long[FIRST_LAST + 1];
        private final Polys polys = new Polys();
        private boolean polysAreOld = true;

        void begin(int newKind) {
            kind = newKind;
            last = FIRST_LAST;
            points = 0;
            changed = false;
            Arrays.fill(weightAt, 0);
            Arrays.fill(moments, 0);
            polysAreOld = true;
        }

        void addPoint(int x, int weight) {
            int before = weightAt[x + MOST_X];
            int after = before + weight;
            weightAt[x + MOST_X] = after;
            if (before == 0) {
                points++;
            }
            if (after == 0) {
                points--;
            }
            addToMoments(x, weight);
        }

        void addToMoments(int x, long weight) {
            long part = weight;
            for (int k = 0; k <= FIRST_LAST; k++) {
                moments[k] += part;
                part *= x;
            }
            polysAreOld = true;
        }

        void tellMoment(int k, int value) {
            kind = TOLD;
            moments[k] = value;
            polysAreOld = true;
        }

        int momentsNotZero() {
            int found = 0;
            for (int k = 0; k <= FIRST_LAST; k++) {
                if (moments[k] != 0) {
                    found++;
                }
            }
            return found;
        }

        /** The factor 27720 can be divided by each of 1 to 12, so that all moments are whole. */
        void spread(int a, int b) {
            for (int k = 0; k <= FIRST_LAST; k++) {
                moments[k] = SPAN_FACTOR / (k + 1) * (power(b, k + 1) - power(a, k + 1));
            }
        }

        void change(long[] newMoments, int newLast) {
            System.arraycopy(newMoments, 0, moments, 0, newLast + 1);
            last = newLast;
            changed = true;
            polysAreOld = true;
        }

        void copyFrom(Weights from) {
            kind = from.kind;
            last = from.last;
            points = from.points;
            changed = from.changed;
            System.arraycopy(from.weightAt, 0, weightAt, 0, weightAt.length);
            System.arraycopy(from.moments, 0, moments, 0, moments.length);
            polysAreOld = true;
        }

        /** Made only when they are asked for, as weights often change several times in a row. */
        Polys polys() {
            if (polysAreOld) {
                polys.take(moments, last);
                polysAreOld = false;
            }
            return polys;
        }
    }

    /**
     * P(0) to P(5) in whole numbers: P(k) times determinant k has whole numbers, and they are determinants too,
     * of the first k rows and of k of the columns 0 to k.
     */
    private static final class Polys {
        /** By the set of columns, a bit each; as many rows as columns; with the sign that number() wants. */
        private final Big[] minors = new Big[1 << MOST_ROWS];
        private final Big[] moments = new Big[FIRST_LAST + 1];
        private final Big spare = new Big(2 * MOST_ROWS + 2);
        private final Big part = new Big(2 * MOST_ROWS + 2);
        private int last = FIRST_LAST;
        int top;

        Polys() {
            for (int columns = 0; columns < minors.length; columns++) {
                // two parts hold a moment; a sum of up to 720 products of six of them needs no more than twelve
                minors[columns] = new Big(2 * Integer.bitCount(columns) + 1);
            }
            for (int k = 0; k < moments.length; k++) {
                moments[k] = new Big(2);
            }
        }

        void take(long[] newMoments, int newLast) {
            last = newLast;
            for (int k = 0; k < moments.length; k++) {
                moments[k].setLong(newMoments[k]);
            }
            int width = Math.min(MOST_ROWS, (last + 1) / 2 + 1);
            minors[0].setLong(1);
            for (int columns = 1; columns < 1 << width; columns++) {
                setMinor(columns);
            }
            top = 0;
            while (top < MOST_DEGREE && 2 * top + 1 <= last && determinant(top + 1).signum() != 0) {
                top++;
            }
        }

        /** By the last row; a column's sign counts the columns left out before it, which gives number() its sign. */
        private void setMinor(int columns) {
            Big minor = minors[columns];
            int row = Integer.bitCount(columns) - 1;
            boolean flip = false;
            minor.setLong(0);
            for (int column = 0; column < MOST_ROWS; column++) {
                int bit = 1 << column;
                if ((columns & bit) == 0) {
                    flip = !flip;
                } else if (moments[row + column].signum() != 0) {
                    spare.setProduct(minors[columns ^ bit], moments[row + column]);
                    minor.addSigned(spare, spare.negative != flip);
                }
            }
        }

        boolean has(int k) {
            return k >= 0 && k <= top;
        }

        boolean hasWorth(int k) {
            return has(k) && 2 * k <= last;
        }

        Big determinant(int k) {
            return minors[(1 << k) - 1];
        }

        /** The number with x to the i in P(k), times determinant k. */
        Big number(int k, int i) {
            return minors[((1 << (k + 1)) - 1) ^ (1 << i)];
        }

        /** WORTH(k) is determinant k + 1 by determinant k. */
        int worthSign(int k) {
            return determinant(k + 1).signum() * determinant(k).signum();
        }

        int goodWorths() {
            int found = 0;
            while (found <= MOST_DEGREE && hasWorth(found) && worthSign(found) > 0) {
                found++;
            }
            return found;
        }

        /** OF P(k) times x to the i, times determinant k. */
        void setOf(Big into, int k, int i) {
            into.setLong(0);
            for (int j = 0; j <= k; j++) {
                into.addProduct(number(k, j), moments[i + j], spare);
            }
        }

        /** P(k) at u / v, times determinant k and v to the k. */
        void evaluate(Big into, int k, int u, int v) {
            into.setBig(determinant(k));
            part.setLong(1);
            for (int i = k - 1; i >= 0; i--) {
                into.timesInt(u);
                part.timesInt(v);
                into.addProduct(number(k, i), part, spare);
            }
        }
    }

    /** A fraction; it is brought to lowest terms only when its numbers are asked for. */
    private static final class Hand {
        final Big upper = new Big(WORK_ROOM);
        final Big lower = new Big(WORK_ROOM);
        private final Big left = new Big(WORK_ROOM);
        private final Big right = new Big(WORK_ROOM);
        private boolean isLowest = true;

        Hand() {
            lower.setLong(1);
        }

        int layWhole(long value) {
            upper.setLong(value);
            lower.setLong(1);
            isLowest = true;
            return signAnswer();
        }

        /** The lower number is not 0. */
        int lay(Big newUpper, Big newLower) {
            upper.setBig(newUpper);
            lower.setBig(newLower);
            if (lower.signum() < 0) {
                upper.negate();
                lower.negate();
            }
            isLowest = false;
            return signAnswer();
        }

        int signAnswer() {
            int sign = upper.signum();
            return sign < 0 ? BELOW_ZERO : sign > 0 ? ABOVE_ZERO : 0;
        }

        Big lowestPart(int what) {
            if (!isLowest) {
                bringToLowest();
                isLowest = true;
            }
            return what == 0 ? upper : lower;
        }

        private void bringToLowest() {
            if (upper.signum() == 0) {
                lower.setLong(1);
                return;
            }
            int twos = Math.min(upper.twos(), lower.twos());
            upper.shiftRight(twos);
            lower.shiftRight(twos);
            left.setBig(upper);
            right.setBig(lower);
            left.shiftRight(left.twos());
            right.shiftRight(right.twos());
            Big common = greatestOfOdd(left, right);
            common.dropSign();
            upper.divideByOdd(common);
            lower.divideByOdd(common);
        }

        /** The greatest that divides both, by differences, of which the twos go; both are used up. */
        private static Big greatestOfOdd(Big first, Big second) {
            Big great = first;
            Big small = second;
            // each step takes a bit at least
            for (int step = 0; step < 1000000; step++) {
                int order = great.compareSize(small);
                if (order == 0) {
                    return small;
                }
                if (order < 0) {
                    Big swap = great;
                    great = small;
                    small = swap;
                }
                great.takeSize(small);
                great.shiftRight(great.twos());
            }
            return small;
        }
    }

    /** A whole number of any size; changed in place, so that calls make no new objects. */
    private static final class Big {
        private static final long PART = 0xFFFFFFFFL;

        /** 32 bits each, the lowest first. */
        private int[] parts;
        /** How many parts are used; the highest of them is not 0. */
        private int size;
        /** Never with 0. */
        private boolean negative;

        Big(int room) {
            parts = new int[Math.max(room, 2)];
        }

        void setLong(long value) {
            long rest = value < 0 ? -value : value;
            parts[0] = (int) rest;
            parts[1] = (int) (rest >>> 32);
            size = 2;
            negative = value < 0;
            trim();
        }

        void setBig(Big from) {
            makeRoom(from.size);
            System.arraycopy(from.parts, 0, parts, 0, from.size);
            size = from.size;
            negative = from.negative;
        }

        /** For numbers of up to 63 bits. */
        long toLong() {
            long low = size > 0 ? parts[0] & PART : 0;
            long high = size > 1 ? parts[1] & PART : 0;
            long value = high << 32 | low;
            return negative ? -value : value;
        }

        int signum() {
            return size == 0 ? 0 : negative ? -1 : 1;
        }

        void negate() {
            negative = size != 0 && !negative;
        }

        void dropSign() {
            negative = false;
        }

        int bitLength() {
            return size == 0 ? 0 : 32 * size - Integer.numberOfLeadingZeros(parts[size - 1]);
        }

        int sixteenBits(int k) {
            int at = k >> 1;
            return at < 0 || at >= size ? 0 : parts[at] >>> ((k & 1) << 4) & 0xFFFF;
        }

        /** How many bits at the low end are 0; 0 for the number 0. */
        int twos() {
            for (int i = 0; i < size; i++) {
                if (parts[i] != 0) {
                    return 32 * i + Integer.numberOfTrailingZeros(parts[i]);
                }
            }
            return 0;
        }

        int compareSize(Big with) {
            if (size != with.size) {
                return size < with.size ? -1 : 1;
            }
            for (int i = size - 1; i >= 0; i--) {
                if (parts[i] != with.parts[i]) {
                    return Long.compare(parts[i] & PART, with.parts[i] & PART);
                }
            }
            return 0;
        }

        void take(Big less) {
            addSigned(less, !less.negative);
        }

        /** The spare number is none of the others. */
        void addProduct(Big first, Big second, Big spare) {
            spare.setProduct(first, second);
            addSigned(spare, spare.negative);
        }

        /** As if the other number had the sign that is told. */
        void addSigned(Big more, boolean moreNegative) {
            if (more.size == 0) {
                return;
            }
            if (size == 0) {
                setBig(more);
                negative = moreNegative;
            } else if (negative == moreNegative) {
                addSize(more);
            } else if (compareSize(more) >= 0) {
                takeSize(more);
            } else {
                takeSizeFrom(more);
                negative = moreNegative;
            }
        }

        private void addSize(Big more) {
            int whole = Math.max(size, more.size);
            makeRoom(whole + 1);
            long carry = 0;
            for (int i = 0; i < whole; i++) {
                carry += (i < size ? parts[i] & PART : 0) + (i < more.size ? more.parts[i] & PART : 0);
                parts[i] = (int) carry;
                carry >>>= 32;
            }
            parts[whole] = (int) carry;
            size = whole + 1;
            trim();
        }

        /** For a number that is not of greater size. */
        void takeSize(Big less) {
            long carry = 0;
            for (int i = 0; i < size; i++) {
                carry += (parts[i] & PART) - (i < less.size ? less.parts[i] & PART : 0);
                parts[i] = (int) carry;
                carry >>= 32;
            }
            trim();
        }

        /** For a number of greater size. */
        private void takeSizeFrom(Big from) {
            makeRoom(from.size);
            long carry = 0;
            for (int i = 0; i < from.size; i++) {
                carry += (from.parts[i] & PART) - (i < size ? parts[i] & PART : 0);
                parts[i] = (int) carry;
                carry >>= 32;
            }
            size = from.size;
            trim();
        }

        /** Neither factor is this number itself. */
        void setProduct(Big first, Big second) {
            int whole = first.size + second.size;
            makeRoom(whole);
            Arrays.fill(parts, 0, whole, 0);
            for (int i = 0; i < first.size; i++) {
                long factor = first.parts[i] & PART;
                long carry = 0;
                for (int j = 0; j < second.size; j++) {
                    carry += factor * (second.parts[j] & PART) + (parts[i + j] & PART);
                    parts[i + j] = (int) carry;
                    carry >>>= 32;
                }
                parts[i + second.size] = (int) carry;
            }
            size = whole;
            negative = first.negative != second.negative;
            trim();
        }

        /** The spare number is neither this one nor the factor. */
        void times(Big factor, Big spare) {
            spare.setProduct(this, factor);
            setBig(spare);
        }

        void timesInt(int factor) {
            long size32 = Math.abs((long) factor);
            makeRoom(size + 1);
            long carry = 0;
            for (int i = 0; i < size; i++) {
                carry += size32 * (parts[i] & PART);
                parts[i] = (int) carry;
                carry >>>= 32;
            }
            parts[size] = (int) carry;
            size++;
            negative = negative != (factor < 0);
            trim();
        }

        void shiftRight(int bits) {
            int whole = bits >> 5;
            int rest = bits & 31;
            for (int i = 0; i + whole < size; i++) {
                int above = i + whole + 1 < size ? parts[i + whole + 1] : 0;
                long pair = (long) above << 32 | parts[i + whole] & PART;
                parts[i] = (int) (pair >>> rest);
            }
            size = Math.max(size - whole, 0);
            trim();
        }

        /** For a divisor that is not 0 and leaves nothing; the spare number is neither of them. */
        void divideWhole(Big divisor, Big spare) {
            int twos = divisor.twos();
            spare.setBig(divisor);
            spare.shiftRight(twos);
            shiftRight(twos);
            divideByOdd(spare);
        }

        /** For an odd divisor that leaves nothing: each part of the answer, from the low end on, is then known. */
        void divideByOdd(Big divisor) {
            int whole = Math.max(size - divisor.size + 1, 0);
            int inverse = inverseOf(divisor.parts[0]);
            for (int i = 0; i < whole; i++) {
                int digit = parts[i] * inverse;
                long factor = digit & PART;
                long borrow = 0;
                for (int j = 0; j < divisor.size && i + j < whole; j++) {
                    borrow += factor * (divisor.parts[j] & PART);
                    long difference = (parts[i + j] & PART) - (borrow & PART);
                    parts[i + j] = (int) difference;
                    borrow = (borrow >>> 32) + (difference < 0 ? 1 : 0);
                }
                for (int j = i + divisor.size; j < whole && borrow != 0; j++) {
                    long difference = (parts[j] & PART) - borrow;
                    parts[j] = (int) difference;
                    borrow = difference < 0 ? 1 : 0;
                }
                parts[i] = digit;
            }
            size = whole;
            negative = negative != divisor.negative;
            trim();
        }

        /** Of an odd number, by 2 to the 32: each step doubles the bits that are right, three at first. */
        private static int inverseOf(int odd) {
            int inverse = odd;
            for (int step = 0; step < 4; step++) {
                inverse *= 2 - odd * inverse;
            }
            return inverse;
        }

        private void trim() {
            while (size > 0 && parts[size - 1] == 0) {
                size--;
            }
            if (size == 0) {
                negative = false;
            }
        }

        private void makeRoom(int room) {
            if (parts.length < room) {
                parts = Arrays.copyOf(parts, Math.max(room, 2 * parts.length));
            }
        }
    }
}
