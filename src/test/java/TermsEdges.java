/** The boundary cases that the document's "Terms" name, a test for each sentence. */
public final class TermsEdges extends Bench {
    public static void main(String[] args) {
        run(TermsEdges.class);
    }

    // ---- "Calls that are refused answer, the first of these that fits: UNKNOWN, OUTSIDE, STATE, FULL, NO.
    // ---- They change nothing."

    static void pointSaysOutsideBeforeState() {
        refuses(span(0, 1), OUTSIDE, desk -> desk.point(10, 1));
        refuses(span(0, 1), OUTSIDE, desk -> desk.point(0, 0));
        refuses(list(0, 1).then(desk -> desk.mirror(0)), OUTSIDE, desk -> desk.point(0, 100));
        refuses(span(0, 1), STATE, desk -> desk.point(9, 99));
    }

    static void pointSaysOutsideBeforeFull() {
        refuses(evenList(-9, 10), OUTSIDE, desk -> desk.point(10, 1));
        refuses(evenList(-9, 10), OUTSIDE, desk -> desk.point(9, 100));
        refuses(evenList(-9, 10), OUTSIDE, desk -> desk.point(9, 0));
        refuses(evenList(-9, 10), FULL, desk -> desk.point(9, 99));
    }

    static void pointSaysOutsideBeforeNo() {
        refuses(list(3, 99), OUTSIDE, desk -> desk.point(3, 100));
        refuses(list(3, 99), OUTSIDE, desk -> desk.point(3, 0));
        refuses(list(3, 99), NO, desk -> desk.point(3, 1));
    }

    static void pointSaysStateBeforeFullAndNo() {
        refuses(evenList(-9, 10).then(desk -> desk.mirror(0)), STATE, desk -> desk.point(9, 1));
        refuses(list(3, 99).then(desk -> desk.by(0)), STATE, desk -> desk.point(3, 1));
    }

    static void momentSaysUnknownBeforeOutsideBeforeState() {
        refuses(span(0, 1), UNKNOWN, desk -> desk.moment(12, 1000001));
        refuses(span(0, 1), UNKNOWN, desk -> desk.moment(-1, 0));
        refuses(span(0, 1), OUTSIDE, desk -> desk.moment(11, 1000001));
        refuses(span(0, 1), STATE, desk -> desk.moment(11, 1000000));
        refuses(nothing(), UNKNOWN, desk -> desk.moment(12, 1000001));
    }

    static void bySaysOutsideBeforeStateBeforeFull() {
        // at 32 each factor x + 9 is 41: 16 times 41 to the 9 times 32 to the 2 would be too great, but LAST is 3
        Setup atLastThree = movedUp(16);
        Setup atLastFour = movedUp(18);
        for (int i = 0; i < 8; i++) {
            atLastThree = atLastThree.then(desk -> desk.by(-9));
            atLastFour = i < 7 ? atLastFour.then(desk -> desk.by(-9)) : atLastFour;
        }
        due(atLastThree.desk().told(1), 3);
        due(atLastFour.desk().told(1), 4);
        refuses(atLastThree, OUTSIDE, desk -> desk.by(-10));
        refuses(atLastThree, STATE, desk -> desk.by(-9));
        refuses(atLastFour, OUTSIDE, desk -> desk.by(-10));
        refuses(atLastFour, FULL, desk -> desk.by(-9));
    }

    static void mirrorSaysOutsideBeforeFull() {
        refuses(movedUp(127), OUTSIDE, desk -> desk.mirror(-10));
        refuses(movedUp(127), FULL, desk -> desk.mirror(-9));
    }

    static void layRuleSaysUnknownBeforeOutside() {
        refuses(list(0, 1, 3, 2), UNKNOWN, desk -> desk.layRule(2, 2));
        refuses(list(0, 1, 3, 2), OUTSIDE, desk -> desk.layRule(1, 2));
    }

    static void layValueSaysUnknownBeforeOutside() {
        refuses(list(0, 1, 3, 2), UNKNOWN, desk -> desk.layValue(3, 1000001, 0));
        refuses(list(0, 1, 3, 2), OUTSIDE, desk -> desk.layValue(2, 1000001, 0));
    }

    static void layShareSaysUnknownBeforeNo() {
        refuses(list(0, 1, 3, 2), UNKNOWN, desk -> desk.layShare(10, 2));
        refuses(list(0, 1, 3, 2), UNKNOWN, desk -> desk.layShare(-1, 2));
        refuses(list(0, 1, 3, 2), NO, desk -> desk.layShare(9, 2));
    }

    static void layKernelSaysUnknownBeforeOutsideBeforeNo() {
        refuses(list(0, 1, 3, 2), UNKNOWN, desk -> desk.layKernel(3, 1001, 0));
        refuses(list(0, 1, 3, 2), OUTSIDE, desk -> desk.layKernel(2, 1001, 0));
        refuses(list(0, 1, 3, 2), OUTSIDE, desk -> desk.layKernel(2, 0, -1001));
        refuses(list(0, 1, 3, 2), NO, desk -> desk.layKernel(2, 1000, -1000));
    }

    static void belowSaysUnknownBeforeOutsideBeforeNo() {
        refuses(told(2, 0, -1), UNKNOWN, desk -> desk.below(6, 1000001, 1));
        refuses(told(2, 0, -1), OUTSIDE, desk -> desk.below(2, 1000001, 1));
        refuses(told(2, 0, -1), NO, desk -> desk.below(2, 1000000, 1));
    }

    static void shutSaysUnknownBeforeOutsideBeforeNo() {
        refuses(told(2, 0, -1), -3000001, desk -> desk.shut(2, 2, 11));
        refuses(told(2, 0, -1), -3000002, desk -> desk.shut(2, 1, 11));
        refuses(told(2, 0, -1), -3000005, desk -> desk.shut(2, 1, 10));
    }

    // ---- 1

    /** "(0 to the 0 is 1)" */
    static void zeroToTheZeroIsOne() {
        MomentDesk desk = list(0, 7).desk();
        laid(desk, desk.layMoment(0), 7, 1);
        laid(desk, desk.layMoment(1), 0, 1);
        laid(desk, desk.layMoment(11), 0, 1);
        desk.counted(0, 1, 0, 0);
        laid(desk, desk.layMoment(0), 2, 1);
        laid(desk, desk.layMoment(1), 1, 1);
        MomentDesk mirrored = told(5, 3).then(d -> d.mirror(0)).desk();
        laid(mirrored, mirrored.layMoment(0), 5, 1);
        laid(mirrored, mirrored.layMoment(1), -3, 1);
    }

    /** "MOMENT k is 27720 times (b to the k + 1 less a to the k + 1) by k + 1": the first and the last k. */
    static void spanHasMoments0To11() {
        MomentDesk desk = span(-9, 8).desk();
        laid(desk, desk.layMoment(0), 27720 * 17, 1);
        laid(desk, desk.layMoment(1), 13860 * (64 - 81), 1);
        laid(desk, desk.layMoment(10), 2520 * (8589934592L + 31381059609L), 1);
        laid(desk, desk.layMoment(11), 2310 * (68719476736L - 282429536481L), 1);
        refuses(span(-9, 8), UNKNOWN, d -> d.layMoment(12));
    }

    /** "COUNTED: weights of x from 0 to n": the first and the last x. */
    static void countedFrom0ToN() {
        MomentDesk desk = counted(1, 1, 2, 3).desk();
        laid(desk, desk.layMoment(0), 5, 1);
        laid(desk, desk.layMoment(11), 2, 1);
        desk.counted(1, 6, 1, 3);
        laid(desk, desk.layMoment(0), 4096, 1);
        laid(desk, desk.layMoment(1), 6 * 1024, 1);
        laid(desk, desk.layValue(1, 0, 1), -3, 2);
        desk.counted(0, 9, 0, 0);
        laid(desk, desk.layMoment(0), 10, 1);
        laid(desk, desk.layMoment(1), 45, 1);
        laid(desk, desk.layMoment(11), 42364319625L, 1);
    }

    /** "(n over x is how many ways there are to take x of n; 0, if x is above n)" */
    static void waysBeyondNAre0() {
        MomentDesk desk = counted(2, 6, 2, 4).desk();
        // only 2 of the 2 and 4 of the 4 make 6
        laid(desk, desk.layMoment(0), 1, 1);
        laid(desk, desk.layMoment(1), 2, 1);
        due(desk.few(), 1);
        due(desk.counted(2, 6, 2, 5), 2);
        laid(desk, desk.layMoment(0), 7, 1);
        laid(desk, desk.layMoment(1), 2 * 5 + 2, 1);
        due(desk.counted(2, 6, 6, 6), 7);
        laid(desk, desk.layMoment(0), 924, 1);
    }

    /** "MOMENTS 0 to LAST are there (LAST is 11 at first)." */
    static void momentsAreThereUpToLast() {
        due(new MomentDesk().told(1), 11);
        for (int last = 11; last >= 3; last--) {
            Setup setup = told(4, 3, 2, 1, 1, 2, 3, 4, 5, 6, 7, 8).shortened(last);
            MomentDesk desk = setup.desk();
            due(desk.told(1), last);
            int beyond = last + 1;
            due(desk.layMoment(0) < 0 ? 0 : 1, 1);
            due(desk.layMoment(last) < 0 ? 0 : 1, 1);
            refuses(setup, UNKNOWN, d -> d.layMoment(beyond));
            refuses(setup, UNKNOWN, d -> d.layMoment(-1));
        }
    }

    /** "They are whole, below 2 to the 62 in size": just so and just not, in a mirror. */
    static void mirrorUpTo2ToThe62() {
        long most = (1L << 62) - 1;
        MomentDesk up = movedUp(128, 0, 0, 0, 0, 0, 0, 0, 0, 0, 0, -1).desk();
        laid(up, up.layMoment(11), most, 1);
        MomentDesk down = movedDown(128, 0, 0, 0, 0, 0, 0, 0, 0, 0, 0, 1).desk();
        laid(down, down.layMoment(11), -most, 1);
        int[] more = {0, 1};
        for (int size : more) {
            Setup lessByOne = told(128, 0, 0, 0, 0, 0, 0, 0, 0, 0, 0, size);
            refuses(lessByOne.then(d -> d.mirror(-8)).then(d -> d.mirror(8)).then(d -> d.mirror(-8)), FULL, d -> d.mirror(8));
            Setup moreByOne = told(128, 0, 0, 0, 0, 0, 0, 0, 0, 0, 0, -size);
            refuses(moreByOne.then(d -> d.mirror(8)).then(d -> d.mirror(-8)).then(d -> d.mirror(8)), FULL, d -> d.mirror(-8));
        }
    }

    /** "They are whole, below 2 to the 62 in size": just so and just not, by a factor. */
    static void byUpTo2ToThe62() {
        long most = (1L << 62) - 1;
        // at 32 these make just the greatest moment 10 that is allowed, by a factor x + 9
        MomentDesk up = movedUp(99, 2, 4, 4, 11, 21, 20, 39, 19, 75, 93, 282).desk();
        due(up.by(-9), 10);
        laid(up, up.layMoment(10), most, 1);
        refuses(movedUp(99, 2, 4, 4, 11, 21, 20, 39, 19, 75, 93, 283), FULL, d -> d.by(-9));
        MomentDesk down = movedDown(99, -2, 4, -4, 11, -21, 20, -39, 19, -75, 93, -282).desk();
        due(down.by(9), 10);
        laid(down, down.layMoment(10), -most, 1);
        refuses(movedDown(99, -2, 4, -4, 11, -21, 20, -39, 19, -75, 93, -283), FULL, d -> d.by(9));
    }

    /** "FULL: a MOMENT would be too great": here moment 10 alone, and moment 11 would not. */
    static void aMomentBeforeTheLastMayBeTooGreat() {
        Setup setup = told(73571, -389784, 1000000, 1000000, 1000000, 1000000, 1000000, 1000000, 1000000, 1000000, 1000000, -1000000)
            .then(d -> d.mirror(-6)).then(d -> d.mirror(9)).then(d -> d.mirror(-5));
        MomentDesk desk = setup.desk();
        due(desk.mirror(7), 1);
        refuses(setup.then(d -> d.mirror(7)), FULL, d -> d.mirror(-8));
    }

    /** "LAST is one less (it is 3 at least)." */
    static void lastIs3AtLeast() {
        MomentDesk desk = span(0, 1).desk();
        for (int last = 10; last >= 3; last--) {
            due(desk.by(-1), last);
            due(desk.told(1), last);
        }
        refuses(span(0, 1).shortened(3), STATE, d -> d.by(-1));
        due(desk.mirror(2), 1);
        due(desk.told(1), 3);
    }

    /** "IN A MIRROR c: MOMENT k becomes that of (c less x) to the k": for all k up to LAST, which stays. */
    static void mirrorUpToLast() {
        MomentDesk desk = list(2, 3).desk();
        due(desk.mirror(5), 1);
        long power = 3;
        for (int k = 0; k <= 11; k++) {
            laid(desk, desk.layMoment(k), power, 1);
            power *= 3;
        }
        MomentDesk fewer = list(2, 3).shortened(3).desk();
        laid(fewer, fewer.layMoment(0), 3 * 5764801, 1);
        due(fewer.mirror(5), 1);
        laid(fewer, fewer.layMoment(3), 27 * 3 * 5764801L, 1);
        due(fewer.layMoment(4), -1);
    }

    // ---- 2

    /** "P(0) is 1": also where all MOMENTS are 0. */
    static void firstPolyIsAlwaysThere() {
        MomentDesk desk = new MomentDesk();
        due(desk.told(4), 0);
        laid(desk, desk.layNumber(0, 0), 1, 1);
        laid(desk, desk.layValue(0, 5, 3), 1, 1);
        refuses(nothing(), UNKNOWN, d -> d.layNumber(1, 0));
    }

    /** "P(k + 1) is there, if .. MOMENTS to 2 k + 1 are there" */
    static void polysAreThereAsMomentsAre() {
        int[] tops = {2, 2, 3, 3, 4, 4, 5, 5, 5};
        for (int last = 3; last <= 11; last++) {
            int top = tops[last - 3];
            Setup setup = span(-1, 2).shortened(last);
            MomentDesk desk = setup.desk();
            due(desk.told(4), top);
            laid(desk, desk.layNumber(top, top), 1, 1);
            refuses(setup, UNKNOWN, d -> d.layNumber(top + 1, top + 1));
        }
    }

    /** "P(k + 1) is there, if P(k) is, WORTH(k) is not 0": k points have P(k), of WORTH 0, and none beyond. */
    static void noPolyIsThereBehindAWorthOf0() {
        for (int points = 0; points <= 4; points++) {
            int top = points;
            Setup setup = evenList(-2, points);
            MomentDesk desk = setup.desk();
            due(desk.told(4), top);
            laid(desk, desk.layWorth(top), 0, 1);
            refuses(setup, UNKNOWN, d -> d.layNumber(top + 1, 0));
            refuses(setup, UNKNOWN, d -> d.layWorth(top + 1));
        }
        // the determinant of two rows is not 0 here, but WORTH(0) is
        refuses(told(0, 1), UNKNOWN, d -> d.layNumber(2, 0));
        due(told(0, 1).desk().told(4), 0);
        due(told(1, 0, 0, 1).desk().told(4), 1);
    }

    /** "WORTH(k) is not 0": below 0 it may be. */
    static void polysAreThereBehindAWorthBelow0() {
        MomentDesk desk = told(2, 0, -1).desk();
        laid(desk, desk.layWorth(1), -1, 1);
        laid(desk, desk.layNumber(2, 0), 1, 2);
    }

    /** "(No more than P(5) is there.)" */
    static void noMoreThanP5() {
        MomentDesk desk = evenList(-5, 10).desk();
        due(desk.told(4), 5);
        due(desk.layWorth(5), 1);
        laid(desk, desk.layNumber(5, 5), 1, 1);
        refuses(evenList(-5, 10), UNKNOWN, d -> d.layNumber(6, 6));
        refuses(evenList(-5, 10), UNKNOWN, d -> d.layWorth(6));
    }

    /** "WORTH(k) is there, if P(k) and MOMENT 2 k are." */
    static void worthsAreThereAsMomentsAre() {
        for (int last = 3; last <= 11; last++) {
            int top = Math.min(last / 2, 5);
            Setup setup = span(-1, 2).shortened(last);
            MomentDesk desk = setup.desk();
            due(desk.layWorth(top) > 0 ? 1 : 0, 1);
            refuses(setup, UNKNOWN, d -> d.layWorth(top + 1));
        }
        // P(5) is there with MOMENT 9, its WORTH is not
        due(span(-1, 2).shortened(9).desk().told(4), 5);
        refuses(span(-1, 2).shortened(9), UNKNOWN, d -> d.layWorth(5));
    }

    /** "(B(0) is WORTH(0), of which nothing is taken)" */
    static void ruleAt0() {
        MomentDesk desk = list(2, 3, 7, 1).desk();
        laid(desk, desk.layRule(0, 1), 4, 1);
        laid(desk, desk.layRule(0, 0), 13, 4);
        laid(desk, desk.layNumber(1, 0), -13, 4);
        laid(desk, desk.layNumber(1, 1), 1, 1);
    }

    /** "A(k), B(k) are there as P(k + 1) is." */
    static void rulesAreThereAsTheNextPolyIs() {
        int[] tops = {2, 2, 3, 3, 4, 4, 5, 5, 5};
        for (int last = 3; last <= 11; last++) {
            int top = tops[last - 3];
            Setup setup = span(-1, 2).shortened(last);
            MomentDesk desk = setup.desk();
            due(desk.layRule(top - 1, 0) < 0 ? 0 : 1, 1);
            due(desk.layRule(top - 1, 1) < 0 ? 0 : 1, 1);
            refuses(setup, UNKNOWN, d -> d.layRule(top, 0));
            refuses(setup, UNKNOWN, d -> d.layRule(top, 1));
        }
        MomentDesk two = list(0, 1, 3, 2).desk();
        laid(two, two.layRule(1, 1), 2, 1);
        refuses(list(0, 1, 3, 2), UNKNOWN, d -> d.layRule(2, 1));
        refuses(nothing(), UNKNOWN, d -> d.layRule(0, 0));
    }

    /** "DETERMINANT(k) is .. 1 for k 0; for k up to 6, if MOMENTS to 2 k - 2 are there." */
    static void determinantsAreThereAsMomentsAre() {
        int[] mosts = {2, 3, 3, 4, 4, 5, 5, 6, 6};
        for (int last = 3; last <= 11; last++) {
            int most = mosts[last - 3];
            Setup setup = span(-1, 2).shortened(last);
            MomentDesk desk = setup.desk();
            laid(desk, desk.layDeterminant(0), 1, 1);
            due(desk.layDeterminant(most) > 0 ? 1 : 0, 1);
            refuses(setup, UNKNOWN, d -> d.layDeterminant(most + 1));
            refuses(setup, UNKNOWN, d -> d.layDeterminant(-1));
        }
    }

    /** "THE HAND has .. (0 / 1 at first)." */
    static void theHandAtFirst() {
        MomentDesk desk = new MomentDesk();
        inHand(desk, 0, 1);
        due(desk.against(0, 1), 0);
    }

    /** "a fraction in lowest terms, its lower number above 0" */
    static void theHandInLowestTerms() {
        MomentDesk desk = told(-4, 6).desk();
        laid(desk, desk.layRule(0, 0), -3, 2);
        desk.moment(1, -6);
        laid(desk, desk.layRule(0, 0), 3, 2);
        desk.moment(1, 0);
        laid(desk, desk.layRule(0, 0), 0, 1);
        desk.moment(1, 8);
        laid(desk, desk.layRule(0, 0), -2, 1);
    }

    /** "What LAYS one answers its sign: 1 above 0, 0, 2 below 0." */
    static void whatLaysAnswersTheSign() {
        MomentDesk desk = told(1, -1, 0).desk();
        due(desk.layMoment(0), 1);
        due(desk.layMoment(1), 2);
        due(desk.layMoment(2), 0);
        due(desk.layWorth(1), 2);
        due(desk.layDeterminant(2), 2);
        due(desk.layNumber(1, 0), 1);
        due(desk.layRule(0, 0), 2);
        due(desk.layRule(1, 1), 2);
        due(desk.layValue(1, -2, 1), 2);
        due(desk.layValue(1, -1, 1), 0);
        due(desk.layProduct(1, 1), 2);
        due(desk.layShare(1, 0), 2);
        due(desk.layKernel(1, 1, 1), 2);
        due(desk.layKernel(1, 0, 0), 0);
        due(desk.layLeft(1, 2), 2);
        due(desk.layLeft(1, 1), 0);
    }

    /** "KERNEL(n) of x and y: for k from 0 to n": the first and the last are taken too. */
    static void kernelFrom0ToN() {
        MomentDesk desk = span(-1, 1).desk();
        laid(desk, desk.layKernel(0, 7, -7), 1, 55440);
        laid(desk, desk.layKernel(1, 7, -7), (1 - 3 * 49) / 2, 27720);
        refuses(span(-1, 1).shortened(9), UNKNOWN, d -> d.layKernel(5, 0, 0));
        due(span(-1, 1).shortened(9).desk().layKernel(4, 0, 0) > 0 ? 1 : 0, 1);
    }

    /** "LEFT(n, d): OF x to the d, less OF what is left of x to the d by P(n)": first at d = 2 n something is. */
    static void leftFromTwiceNOn() {
        MomentDesk desk = span(-1, 1).desk();
        for (int n = 1; n <= 5; n++) {
            laid(desk, desk.layLeft(n, 0), 0, 1);
            laid(desk, desk.layLeft(n, 2 * n - 1), 0, 1);
            due(desk.layLeft(n, 2 * n), 1);
        }
        laid(desk, desk.layLeft(1, 2), 18480, 1);
    }

    // ---- what stands ahead of the calls

    /** "what is told of others is gone with each but point() and moment()" */
    static void whatIsToldOfOthersIsGone() {
        Setup[] others = {list(1, 2, 3, 4), told(1, 2, 3), span(1, 2), counted(0, 9, 0, 0),
            list(1, 2, 3, 4).then(d -> d.mirror(3)), told(1, 2, 3).shortened(3), span(1, 2).shortened(5)};
        for (Setup other : others) {
            MomentDesk desk = other.desk();
            desk.clear();
            state(desk, 0, 11, 0, 0);
            laid(desk, desk.layMoment(2), 0, 1);
            desk = other.desk();
            desk.span(0, 1);
            state(desk, 2, 11, 0, 0);
            laid(desk, desk.layMoment(2), 9240, 1);
            desk = other.desk();
            desk.counted(0, 1, 0, 0);
            state(desk, 3, 11, 0, 0);
            laid(desk, desk.layMoment(2), 1, 1);
        }
    }

    /** "but point() and moment()": what was told before them stays. */
    static void pointAndMomentAddToWhatIsTold() {
        MomentDesk desk = list(1, 2).desk();
        due(desk.point(3, 4), 2);
        laid(desk, desk.layMoment(1), 14, 1);
        desk = told(5, 6).desk();
        due(desk.moment(11, 7), 3);
        laid(desk, desk.layMoment(0), 5, 1);
        laid(desk, desk.layMoment(1), 6, 1);
        laid(desk, desk.layMoment(11), 7, 1);
    }

    /** "THE HAND stays" */
    static void theHandStays() {
        Call[] calls = {MomentDesk::clear, desk -> desk.point(1, 1), desk -> desk.clear(), desk -> desk.moment(0, 1),
            desk -> desk.span(0, 1), desk -> desk.counted(0, 1, 0, 0), desk -> desk.by(1), desk -> desk.mirror(1),
            desk -> desk.keep(0), desk -> desk.back(0)};
        MomentDesk desk = span(-1, 1).desk();
        laid(desk, desk.layNumber(2, 0), -1, 3);
        for (Call call : calls) {
            due(call.on(desk) < 0 ? 0 : 1, 1);
            inHand(desk, -1, 3);
        }
    }

    /** "NO: a WORTH(i) with i below k is not above 0": WORTH(k) itself is of no matter. */
    static void noLooksAtWorthsBelowKAlone() {
        MomentDesk desk = told(2, 0, -1).desk();
        due(desk.below(1, 1, 1), 1);
        due(desk.shut(1, 0, 0), 0);
        refuses(told(2, 0, -1), NO, d -> d.below(2, 1, 1));
        refuses(told(2, 0, -1), -3000005, d -> d.shut(2, 0, 0));
        // WORTHS -1, 1: the first one is below 0, the one right below k is not
        MomentDesk first = told(-1, 0, 1).desk();
        due(first.told(4) >= 2 ? 1 : 0, 1);
        laid(first, first.layWorth(1), 1, 1);
        refuses(told(-1, 0, 1), NO, d -> d.below(2, 1, 1));
        refuses(told(-1, 0, 1), -3000005, d -> d.shut(2, 0, 0));
        MomentDesk two = list(0, 1, 3, 2).desk();
        laid(two, two.layWorth(2), 0, 1);
        due(two.below(2, 3, 1), 1);
        due(two.shut(2, 1, 0), 3);
    }

    /** "An object is used for at most 512 calls after it has been made": the last of them is as right as the first. */
    static void theLastOf512Calls() {
        MomentDesk desk = new MomentDesk();
        for (int calls = 4; calls <= MOST_CALLS; calls += 4) {
            int c = calls % 9;
            due(desk.span(-1, 1), 1);
            due(desk.mirror(c), 1);
            due(desk.shut(5, 4, 10), 1024 * c + 927);
            due(desk.layKernel(5, c - 1, c + 1), 2);
        }
    }
}
