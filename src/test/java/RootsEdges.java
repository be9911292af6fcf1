/** The boundary cases that promises 23 to 27 name, a test for each sentence. */
public final class RootsEdges extends Bench {
    private static final int BEYOND = -2000001, SHUT_UNKNOWN = -3000001, SHUT_OUTSIDE = -3000002, SHUT_NO = -3000005;
    private static final Setup FOUR = list(-3, 1, 0, 2, 4, 5, 9, 1);
    private static final int[] FOUR_ROOTS = {-3, 0, 4, 9};
    /** WORTHS 2 and -1. */
    private static final Setup SIGNED = told(2, 0, -1);

    public static void main(String[] args) {
        run(RootsEdges.class);
    }

    // ---- 23 below

    /** "How many roots of P(k) are below u / v": a root that is the same is not. */
    static void belowIsNotTheSame() {
        MomentDesk desk = FOUR.desk();
        for (int i = 0; i < 4; i++) {
            due(desk.below(4, FOUR_ROOTS[i] * 100000 - 1, 100000), i);
            due(desk.below(4, FOUR_ROOTS[i] * 100000, 100000), i);
            due(desk.below(4, FOUR_ROOTS[i] * 100000 + 1, 100000), i + 1);
        }
    }

    /** P(j) before P(k) with a root at just this u / v. */
    static void belowWhereAnEarlierPolyIs0() {
        MomentDesk desk = span(-1, 1).desk();
        int[] atZero = {0, 0, 1, 1, 2, 2};
        for (int k = 0; k <= 5; k++) {
            due(desk.below(k, 0, 7), atZero[k]);
            due(desk.below(k, 1, MILLION), (k + 1) / 2);
            due(desk.below(k, -1, MILLION), k / 2);
            due(desk.below(k, -1, 1), 0);
            due(desk.below(k, 1, 1), k);
        }
    }

    /** "UNKNOWN: P(k) is not there" */
    static void belowOfPolysThatAreThere() {
        MomentDesk desk = FOUR.desk();
        due(desk.below(0, 0, 1), 0);
        due(desk.below(4, MILLION, 1), 4);
        int[] unknown = {-1, 5, 6, LOWEST, HIGHEST};
        for (int k : unknown) {
            refuses(FOUR, UNKNOWN, d -> d.below(k, 0, 1));
        }
        due(span(0, 1).desk().below(5, 1, 1), 5);
        refuses(span(0, 1), UNKNOWN, d -> d.below(6, 0, 1));
        due(new MomentDesk().below(0, 0, 1), 0);
        refuses(nothing(), UNKNOWN, d -> d.below(1, 0, 1));
    }

    /** "OUTSIDE, as in layValue()" */
    static void belowOfFractionsThatAreAllowed() {
        MomentDesk desk = told(1, MILLION).desk();
        due(desk.below(1, MILLION, 1), 0);
        due(desk.below(1, -MILLION, 1), 0);
        MomentDesk small = told(MILLION, -1).desk();
        due(small.below(1, -1, MILLION), 0);
        due(small.below(1, 0, MILLION), 1);
        due(small.below(1, -1, 999999), 0);
        for (int[] pair : NO_FRACTIONS) {
            refuses(FOUR, OUTSIDE, d -> d.below(4, pair[0], pair[1]));
            refuses(FOUR, OUTSIDE, d -> d.below(0, pair[0], pair[1]));
        }
    }

    /** "NO": "a WORTH(i) with i below k is not above 0." */
    static void belowNeedsWorthsAbove0() {
        MomentDesk desk = SIGNED.desk();
        due(desk.below(0, 0, 1), 0);
        due(desk.below(1, 0, 1), 0);
        due(desk.below(1, 1, 1), 1);
        for (int k = 2; k <= desk.told(4); k++) {
            int degree = k;
            refuses(SIGNED, NO, d -> d.below(degree, 0, 1));
        }
        due(told(-2, 1).desk().below(0, 0, 1), 0);
        refuses(told(-2, 1), NO, d -> d.below(1, 0, 1));
    }

    /** P(k) of WORTH 0 has its roots, and at LAST 9 those of P(5) are asked for without its WORTH. */
    static void belowDoesNotNeedTheWorthOfKItself() {
        due(FOUR.desk().below(4, 9, 1), 3);
        MomentDesk nine = span(0, 1).then(d -> d.by(-1)).then(d -> d.by(-1)).desk();
        due(nine.told(1), 9);
        due(nine.good(), 5);
        due(nine.below(5, 1, 1), 5);
        due(nine.below(5, 0, 1), 0);
    }

    // ---- 24 shut

    /** "The whole number next below (or the same as) root i .. times 2 to the d" */
    static void shutNextBelowOrTheSame() {
        MomentDesk four = FOUR.desk();
        for (int i = 0; i < 4; i++) {
            for (int d = 0; d <= 10; d++) {
                due(four.shut(4, i, d), FOUR_ROOTS[i] << d);
            }
        }
        MomentDesk desk = told(3, -1).desk();
        int[] below = {-1, -1, -2, -3, -6, -11, -22, -43, -86, -171, -342};
        for (int d = 0; d <= 10; d++) {
            due(desk.shut(1, 0, d), below[d]);
        }
        MomentDesk half = told(2, 1).desk();
        due(half.shut(1, 0, 0), 0);
        due(half.shut(1, 0, 1), 1);
        due(half.shut(1, 0, 10), 512);
    }

    /** "d (0 to 10)"; "OUTSIDE (-3000002)" */
    static void shutDFrom0To10() {
        MomentDesk desk = span(-1, 1).desk();
        due(desk.shut(5, 4, 0), 0);
        due(desk.shut(5, 0, 0), -1);
        due(desk.shut(5, 4, 10), 927);
        due(desk.shut(5, 0, 10), -928);
        int[] outside = {-1, 11, 31, 32, LOWEST, HIGHEST};
        for (int d : outside) {
            refuses(span(-1, 1), SHUT_OUTSIDE, it -> it.shut(5, 4, d));
            refuses(told(1, MILLION), SHUT_OUTSIDE, it -> it.shut(1, 0, d));
        }
    }

    /** "for roots from -512 on": -512 itself is one of these. */
    static void shutFromMinus512() {
        MomentDesk at = told(1, -512).desk();
        due(at.shut(1, 0, 0), -512);
        due(at.shut(1, 0, 10), -524288);
        MomentDesk above = told(1953, 1 - 512 * 1953).desk();
        due(above.shut(1, 0, 0), -512);
        due(above.shut(1, 0, 10), -524288);
        int[][] below = {{1953, -1 - 512 * 1953}, {1, -513}, {1, -MILLION}, {2, -1025}};
        for (int[] pair : below) {
            for (int d = 0; d <= 10; d += 5) {
                due(told(pair[0], pair[1]).desk().shut(1, 0, d), BEYOND);
            }
        }
    }

    /** "for roots .. below 512": 512 itself is none of these. */
    static void shutBelow512() {
        MomentDesk under = told(1953, 512 * 1953 - 1).desk();
        due(under.shut(1, 0, 0), 511);
        due(under.shut(1, 0, 10), 524287);
        due(told(1, 511).desk().shut(1, 0, 10), 511 * 1024);
        int[][] beyond = {{1, 512}, {1953, 512 * 1953 + 1}, {1, 513}, {1, MILLION}, {2, 1025}};
        for (int[] pair : beyond) {
            for (int d = 0; d <= 10; d += 5) {
                due(told(pair[0], pair[1]).desk().shut(1, 0, d), BEYOND);
            }
        }
    }

    /** "-2000001: it is beyond these": only this root, not the others of P(k); and nothing is changed by it. */
    static void shutTellsWhichRootIsBeyond() {
        // x (x - 600) - 1 / 2
        MomentDesk far = told(2, 0, 1, 600).desk();
        due(far.shut(2, 0, 0), -1);
        due(far.shut(2, 1, 0), BEYOND);
        MomentDesk mirrored = told(2, 0, 1, -600).desk();
        due(mirrored.shut(2, 0, 0), BEYOND);
        due(mirrored.shut(2, 1, 0), 0);
        leavesAll(told(2, 0, 1, 600), BEYOND, d -> d.shut(2, 1, 10));
        leavesAll(told(1, 512), BEYOND, d -> d.shut(1, 0, 0));
    }

    /** "UNKNOWN (-3000001): P(k) is not there" */
    static void shutOfPolysThatAreThere() {
        due(FOUR.desk().shut(4, 0, 0), -3);
        int[] unknown = {-1, 5, 6, LOWEST, HIGHEST};
        for (int k : unknown) {
            refuses(FOUR, SHUT_UNKNOWN, d -> d.shut(k, 0, 0));
        }
        due(span(0, 1).desk().shut(5, 0, 0), 0);
        refuses(span(0, 1), SHUT_UNKNOWN, d -> d.shut(6, 0, 0));
        refuses(nothing(), SHUT_UNKNOWN, d -> d.shut(1, 0, 0));
    }

    /** "UNKNOWN (-3000001): .. or has no such root": i from 0 to k - 1, and P(0) has none. */
    static void shutOfRootsThatAreThere() {
        for (int k = 0; k <= 5; k++) {
            int degree = k;
            int[] unknown = {-1, k, k + 1, LOWEST, HIGHEST};
            for (int i : unknown) {
                refuses(span(0, 5), SHUT_UNKNOWN, d -> d.shut(degree, i, 0));
            }
            if (k > 0) {
                MomentDesk desk = span(0, 5).desk();
                due(desk.shut(k, 0, 0), new int[] {2, 1, 0, 0, 0}[k - 1]);
                due(desk.shut(k, k - 1, 0), new int[] {2, 3, 4, 4, 4}[k - 1]);
            }
        }
    }

    /** "(from 0, the least first)" */
    static void shutTheLeastFirst() {
        MomentDesk desk = evenList(-2, 5).desk();
        for (int i = 0; i < 5; i++) {
            due(desk.shut(5, i, 3), 8 * (i - 2));
        }
    }

    /** "NO (-3000005)": "a WORTH(i) with i below k is not above 0." */
    static void shutNeedsWorthsAbove0() {
        due(SIGNED.desk().shut(1, 0, 0), 0);
        refuses(SIGNED, SHUT_NO, d -> d.shut(2, 0, 0));
        refuses(SIGNED, SHUT_NO, d -> d.shut(2, 1, 10));
        refuses(told(-2, 1), SHUT_NO, d -> d.shut(1, 0, 0));
        // its root is beyond 512, but that is not asked for
        refuses(told(-1, 600), SHUT_NO, d -> d.shut(1, 0, 0));
    }

    /** What is asked for leaves WEIGHTS and THE HAND as they are. */
    static void askingLeavesAll() {
        leavesAll(FOUR, 2, d -> d.below(4, 1, 1));
        leavesAll(FOUR, 9216, d -> d.shut(4, 3, 10));
        leavesAll(FOUR, 4, d -> d.good());
        leavesAll(FOUR, 4, d -> d.few());
        leavesAll(span(0, 1), NONE, d -> d.few());
        leavesAll(FOUR, 4, d -> d.told(4));
    }

    // ---- 25 good

    /** "How many WORTHS from WORTH(0) on are above 0": from none to all six. */
    static void goodFrom0To6() {
        due(new MomentDesk().good(), 0);
        for (int points = 1; points <= 10; points++) {
            due(evenList(-5, points).desk().good(), Math.min(points, 6));
        }
        due(list(3, -1).desk().good(), 0);
    }

    /** "one behind the other": those behind one that is not above 0 do not count. */
    static void goodUpToTheFirstThatIsNot() {
        MomentDesk desk = told(2, 0, -1, 0, 9).desk();
        due(desk.layWorth(0), 1);
        due(desk.layWorth(1), 2);
        due(desk.layWorth(2), 1);
        due(desk.good(), 1);
        MomentDesk first = told(-1, 0, 1).desk();
        due(first.layWorth(1), 1);
        due(first.good(), 0);
    }

    /** Only WORTHS that are there count. */
    static void goodOfWorthsThatAreThere() {
        MomentDesk desk = span(0, 1).desk();
        due(desk.good(), 6);
        for (int last = 10; last >= 3; last--) {
            desk.by(-1);
            due(desk.good(), last / 2 + 1);
        }
    }

    // ---- 26 few

    /** "With how many POINTS": from 0 to 5; six or more can't be told. */
    static void fewFrom0To5() {
        for (int points = 0; points <= 10; points++) {
            due(evenList(-5, points).desk().few(), points <= 5 ? points : NONE);
        }
    }

    /** "if WORTH(k) is the first that is not above 0 and it is 0" */
    static void fewNeedsAWorthOf0() {
        due(list(4, 7).desk().few(), 1);
        due(list(4, -7).desk().few(), NONE);
        due(SIGNED.desk().few(), NONE);
        due(span(0, 1).desk().few(), NONE);
        due(list(1, 1, 2, 1, 3, -1).desk().few(), NONE);
    }

    /** "WORTH(k)": one that is not there is not 0. */
    static void fewNeedsAWorthThatIsThere() {
        Setup two = list(3, 1, 5, 1);
        MomentDesk four = two.desk();
        for (int last = 10; last >= 4; last--) {
            four.by(0);
            due(four.few(), 2);
        }
        due(four.by(0), 3);
        due(four.few(), NONE);
        due(four.good(), 2);
    }

    /** "OF P(k) times x to the i is 0 for each i for which MOMENT k + i is there": the last of them too. */
    static void fewLooksAtTheLastMoment() {
        due(told(1, 1, 1, 1, 1, 1, 1, 1, 1, 1, 1, 1).desk().few(), 1);
        due(told(1, 1, 1, 1, 1, 1, 1, 1, 1, 1, 1, 2).desk().few(), NONE);
        due(told(1, 1, 1, 1, 1, 1, 1, 1, 1, 1, 2, 1).desk().few(), NONE);
        due(told(1, 1, 1, 2).desk().few(), NONE);
        due(new MomentDesk().few(), 0);
        due(told(0, 0, 0, 0, 0, 0, 0, 0, 0, 0, 0, 1).desk().few(), NONE);
        due(told(0, 1).desk().few(), NONE);
        int[] moments = {3, 0, 2, 0, 2, 0, 2, 0, 2, 0, 2, 0};
        due(told(moments).desk().few(), 3);
        for (int k = 7; k <= 11; k++) {
            int[] other = moments.clone();
            other[k]++;
            due(told(other).desk().few(), NONE);
        }
    }

    /** "for which MOMENT k + i is there": the last one that is left by factors is looked at too. */
    static void fewLooksAtTheLastMomentThatIsLeft() {
        MomentDesk one = told(1, 1, 1, 1, 1, 1, 1, 1, 1, 1, 1, 1).desk();
        MomentDesk none = told(1, 1, 1, 1, 1, 1, 1, 1, 1, 1, 1, 2).desk();
        for (int last = 10; last >= 3; last--) {
            due(one.by(0), last);
            due(one.few(), 1);
            due(none.by(0), last);
            due(none.few(), NONE);
        }
    }

    // ---- 27 told

    /** "0 the KIND .. 4 up to which k P(k) is there. OUTSIDE." */
    static void toldFrom0To4() {
        MomentDesk desk = list(1, 1, 2, 2).desk();
        int[] due = {0, 11, 2, 0, 2};
        for (int what = 0; what <= 4; what++) {
            due(desk.told(what), due[what]);
        }
        int[] outside = {-1, 5, LOWEST, HIGHEST};
        for (int what : outside) {
            refuses(list(1, 1, 2, 2), OUTSIDE, d -> d.told(what));
            refusesOnNew(nothing(), OUTSIDE, d -> d.told(what));
        }
    }

    /** "0 the KIND": 0 to 3. */
    static void toldKinds() {
        due(new MomentDesk().told(0), 0);
        due(list(1, 1).desk().told(0), 0);
        due(list(1, 1, 1, -1).desk().told(0), 0);
        due(told(0).desk().told(0), 1);
        due(span(0, 1).desk().told(0), 2);
        due(counted(0, 1, 0, 0).desk().told(0), 3);
        due(counted(2, 6, 9, 9).desk().told(0), 3);
    }

    /** "1 LAST": 11 to 3. */
    static void toldLast() {
        for (int last = 11; last >= 3; last--) {
            due(counted(0, 9, 0, 0).shortened(last).desk().told(1), last);
        }
        due(counted(0, 9, 0, 0).shortened(2).desk().told(1), 3);
    }

    /** "2 POINTS of the LIST": 0 to 10; other WEIGHTS have none. */
    static void toldPoints() {
        for (int points = 0; points <= 10; points++) {
            due(evenList(-3, points).desk().told(2), points);
        }
        due(evenList(-3, 11).desk().told(2), 10);
        due(told(1, 2).desk().told(2), 0);
        due(evenList(-3, 10).then(d -> d.span(0, 1)).desk().told(2), 0);
        due(evenList(-3, 10).then(d -> d.counted(0, 9, 0, 0)).desk().told(2), 0);
    }

    /** "3 whether WEIGHTS are CHANGED (1, 0)" */
    static void toldChanged() {
        Setup[] each = {nothing(), list(1, 1), told(1), span(0, 1), counted(0, 1, 0, 0)};
        for (Setup setup : each) {
            due(setup.desk().told(3), 0);
            due(setup.then(d -> d.by(10)).then(d -> d.mirror(10)).desk().told(3), 0);
            due(setup.then(d -> d.by(0)).desk().told(3), 1);
            due(setup.then(d -> d.mirror(0)).desk().told(3), 1);
            due(setup.then(d -> d.mirror(0)).then(d -> d.clear()).desk().told(3), 0);
        }
    }

    /** "4 up to which k P(k) is there": 0 to 5. */
    static void toldTop() {
        for (int points = 0; points <= 10; points++) {
            due(evenList(-5, points).desk().told(4), Math.min(points, 5));
        }
        due(list(-3, 1, 4, -1).desk().told(4), 0);
    }
}
