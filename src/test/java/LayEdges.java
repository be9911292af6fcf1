/** The boundary cases that promises 9 to 18 name, a test for each sentence. */
public final class LayEdges extends Bench {
    private static final Setup TWO = list(0, 1, 3, 2);

    public static void main(String[] args) {
        run(LayEdges.class);
    }

    // ---- 9 layMoment

    /** "MOMENT k. UNKNOWN." */
    static void layMomentFrom0To11() {
        MomentDesk desk = told(-5, 4, 3, 2, 1, 0, 1, 2, 3, 4, 5, 6).desk();
        laid(desk, desk.layMoment(0), -5, 1);
        laid(desk, desk.layMoment(5), 0, 1);
        laid(desk, desk.layMoment(11), 6, 1);
        int[] unknown = {-1, 12, LOWEST, HIGHEST};
        for (int k : unknown) {
            refuses(told(-5, 4), UNKNOWN, d -> d.layMoment(k));
            refusesOnNew(nothing(), UNKNOWN, d -> d.layMoment(k));
        }
    }

    /** "UNKNOWN": a MOMENT that a factor has taken away. */
    static void layMomentUpToLast() {
        MomentDesk desk = told(1, 1, 1, 1, 5).shortened(4).desk();
        due(desk.layMoment(4) >= 0 ? 1 : 0, 1);
        refuses(told(1, 1, 1, 1, 5).shortened(4), UNKNOWN, d -> d.layMoment(5));
        refuses(told(1, 1, 1, 1, 5).shortened(4), UNKNOWN, d -> d.layMoment(11));
    }

    /** A MOMENT of 62 bits is laid whole. */
    static void layMomentOf62Bits() {
        long most = (1L << 62) - 1;
        MomentDesk desk = movedDown(128, 0, 0, 0, 0, 0, 0, 0, 0, 0, 0, 1).desk();
        laid(desk, desk.layMoment(11), -most, 1);
        due(desk.bits(0), 62);
    }

    // ---- 10 layWorth

    /** "UNKNOWN: it is not there": no such degree. */
    static void layWorthFrom0To5() {
        MomentDesk desk = span(0, 1).desk();
        laid(desk, desk.layWorth(0), 27720, 1);
        laid(desk, desk.layWorth(5), 5, 126);
        int[] unknown = {-1, 6, LOWEST, HIGHEST};
        for (int k : unknown) {
            refuses(span(0, 1), UNKNOWN, d -> d.layWorth(k));
        }
    }

    /** "UNKNOWN: it is not there": P(k) is not, as a WORTH before it is 0; that one is laid. */
    static void layWorthUpToTheFirstThatIs0() {
        MomentDesk desk = TWO.desk();
        laid(desk, desk.layWorth(1), 6, 1);
        laid(desk, desk.layWorth(2), 0, 1);
        refuses(TWO, UNKNOWN, d -> d.layWorth(3));
        refuses(TWO, UNKNOWN, d -> d.layWorth(5));
        MomentDesk none = new MomentDesk();
        laid(none, none.layWorth(0), 0, 1);
        refuses(nothing(), UNKNOWN, d -> d.layWorth(1));
        // WORTH(1) is 0 here, and MOMENT 4 would make the determinant of three rows what it may
        refuses(told(1, 0, 0, 5, 7), UNKNOWN, d -> d.layWorth(2));
    }

    /** "UNKNOWN: it is not there": P(k) is, MOMENT 2 k is not. */
    static void layWorthUpToItsMoment() {
        for (int k = 2; k <= 5; k++) {
            int degree = k;
            Setup short1 = span(0, 1).shortened(2 * k - 1);
            due(short1.desk().told(4), k);
            refuses(short1, UNKNOWN, d -> d.layWorth(degree));
            due(span(0, 1).shortened(2 * k).desk().layWorth(k) > 0 ? 1 : 0, 1);
        }
    }

    // ---- 11 layDeterminant

    /** "DETERMINANT(k). UNKNOWN.": from 0 to 6. */
    static void layDeterminantFrom0To6() {
        MomentDesk desk = told(0, 0, 0, 0, 0, 1).desk();
        laid(desk, desk.layDeterminant(0), 1, 1);
        laid(desk, desk.layDeterminant(1), 0, 1);
        laid(desk, desk.layDeterminant(6), -1, 1);
        int[] unknown = {-1, 7, LOWEST, HIGHEST};
        for (int k : unknown) {
            refuses(told(0, 0, 0, 0, 0, 1), UNKNOWN, d -> d.layDeterminant(k));
        }
    }

    /** "if MOMENTS to 2 k - 2 are there": not a MOMENT more is needed. */
    static void layDeterminantUpToItsMoments() {
        for (int k = 3; k <= 6; k++) {
            int rows = k;
            due(span(0, 1).shortened(2 * k - 2).desk().layDeterminant(k) > 0 ? 1 : 0, 1);
            refuses(span(0, 1).shortened(2 * k - 3), UNKNOWN, d -> d.layDeterminant(rows));
        }
        MomentDesk least = told(3, 2, 1).shortened(3).desk();
        due(least.layDeterminant(2) >= 0 ? 1 : 0, 1);
        laid(least, least.layDeterminant(0), 1, 1);
    }

    /** DETERMINANTS are there behind one that is 0, where no P(k) is. */
    static void layDeterminantBehindOneOf0() {
        MomentDesk desk = told(0, 3, 0, 0, 2).desk();
        due(desk.told(4), 0);
        laid(desk, desk.layDeterminant(1), 0, 1);
        laid(desk, desk.layDeterminant(2), -9, 1);
        laid(desk, desk.layDeterminant(3), -18, 1);
        MomentDesk none = new MomentDesk();
        laid(none, none.layDeterminant(0), 1, 1);
        for (int k = 1; k <= 6; k++) {
            laid(none, none.layDeterminant(k), 0, 1);
        }
    }

    // ---- 12 layNumber

    /** "(0 beyond k)": x to the k itself has 1. */
    static void layNumberBeyondK() {
        MomentDesk desk = span(-1, 1).desk();
        for (int k = 0; k <= 5; k++) {
            laid(desk, desk.layNumber(k, k), 1, 1);
            laid(desk, desk.layNumber(k, k + 1), 0, 1);
        }
        laid(desk, desk.layNumber(5, 31), 0, 1);
        laid(desk, desk.layNumber(5, 32), 0, 1);
        laid(desk, desk.layNumber(0, HIGHEST), 0, 1);
        laid(desk, desk.layNumber(2, 0), -1, 3);
    }

    /** "UNKNOWN: P(k) is not there" */
    static void layNumberOfPolysThatAreThere() {
        MomentDesk desk = TWO.desk();
        laid(desk, desk.layNumber(2, 1), -3, 1);
        int[] unknown = {-1, 3, 5, 6, LOWEST, HIGHEST};
        for (int k : unknown) {
            refuses(TWO, UNKNOWN, d -> d.layNumber(k, 0));
            refuses(TWO, UNKNOWN, d -> d.layNumber(k, HIGHEST));
        }
        refuses(span(0, 1), UNKNOWN, d -> d.layNumber(6, 6));
    }

    /** "UNKNOWN: .. i is below 0" */
    static void layNumberFromI0() {
        MomentDesk desk = TWO.desk();
        laid(desk, desk.layNumber(1, 0), -2, 1);
        refuses(TWO, UNKNOWN, d -> d.layNumber(1, -1));
        refuses(TWO, UNKNOWN, d -> d.layNumber(0, -1));
        refuses(TWO, UNKNOWN, d -> d.layNumber(1, LOWEST));
    }

    // ---- 13 layRule

    /** "UNKNOWN": A(k), B(k) from 0 to 4. */
    static void layRuleFrom0To4() {
        MomentDesk desk = span(0, 1).desk();
        laid(desk, desk.layRule(0, 0), 1, 2);
        laid(desk, desk.layRule(0, 1), 27720, 1);
        laid(desk, desk.layRule(4, 0), 1, 2);
        laid(desk, desk.layRule(4, 1), 4, 63);
        int[] unknown = {-1, 5, LOWEST, HIGHEST};
        for (int k : unknown) {
            refuses(span(0, 1), UNKNOWN, d -> d.layRule(k, 0));
            refuses(span(0, 1), UNKNOWN, d -> d.layRule(k, 1));
        }
    }

    /** "A(k) (which = 0), B(k) (1)"; "OUTSIDE" */
    static void layRuleWhichIs0Or1() {
        int[] outside = {-1, 2, LOWEST, HIGHEST};
        for (int which : outside) {
            refuses(span(0, 1), OUTSIDE, d -> d.layRule(0, which));
            refuses(span(0, 1), OUTSIDE, d -> d.layRule(4, which));
        }
    }

    /** A(k) of the last P(k + 1) that points allow. */
    static void layRuleUpToTheLastPoly() {
        MomentDesk desk = TWO.desk();
        laid(desk, desk.layRule(1, 0), 1, 1);
        laid(desk, desk.layRule(1, 1), 2, 1);
        refuses(TWO, UNKNOWN, d -> d.layRule(2, 0));
        refusesOnNew(nothing(), UNKNOWN, d -> d.layRule(0, 1));
    }

    // ---- 14 layValue

    /** "UNKNOWN" */
    static void layValueOfPolysThatAreThere() {
        MomentDesk desk = span(-1, 1).desk();
        laid(desk, desk.layValue(0, 3, 7), 1, 1);
        laid(desk, desk.layValue(5, 1, 1), 8, 63);
        int[] unknown = {-1, 6, LOWEST, HIGHEST};
        for (int k : unknown) {
            refuses(span(-1, 1), UNKNOWN, d -> d.layValue(k, 0, 1));
        }
        MomentDesk two = TWO.desk();
        laid(two, two.layValue(2, 3, 1), 0, 1);
        refuses(TWO, UNKNOWN, d -> d.layValue(3, 0, 1));
    }

    /** "OUTSIDE: u is above 1000000 in size" */
    static void layValueUUpToAMillion() {
        MomentDesk desk = told(1, 0, 1).desk();
        laid(desk, desk.layValue(1, MILLION, 1), MILLION, 1);
        laid(desk, desk.layValue(1, -MILLION, 1), -MILLION, 1);
        laid(desk, desk.layValue(2, -MILLION, 1), 999999999999L, 1);
        for (int k = 0; k <= 2; k++) {
            int degree = k;
            refuses(told(1, 0, 1), OUTSIDE, d -> d.layValue(degree, MILLION + 1, 1));
            refuses(told(1, 0, 1), OUTSIDE, d -> d.layValue(degree, -MILLION - 1, 1));
        }
    }

    /** "OUTSIDE: .. v not 1 to 1000000" */
    static void layValueVFrom1ToAMillion() {
        MomentDesk desk = told(1, 0, 1).desk();
        laid(desk, desk.layValue(1, 1, 1), 1, 1);
        laid(desk, desk.layValue(1, -1, MILLION), -1, MILLION);
        laid(desk, desk.layValue(1, MILLION, MILLION), 1, 1);
        laid(desk, desk.layValue(1, 0, MILLION), 0, 1);
        for (int[] pair : NO_FRACTIONS) {
            refuses(told(1, 0, 1), OUTSIDE, d -> d.layValue(1, pair[0], pair[1]));
        }
        for (int[] pair : NO_FRACTIONS) {
            refuses(told(1, 0, 1), OUTSIDE, d -> d.layValue(0, pair[0], pair[1]));
        }
    }

    // ---- 15 layProduct

    /** "UNKNOWN: they are not there" */
    static void layProductOfPolysThatAreThere() {
        MomentDesk desk = span(-1, 1).desk();
        laid(desk, desk.layProduct(0, 0), 55440, 1);
        due(desk.layProduct(5, 5), 1);
        laid(desk, desk.layProduct(0, 5), 0, 1);
        laid(desk, desk.layProduct(5, 0), 0, 1);
        int[] unknown = {-1, 6, LOWEST, HIGHEST};
        for (int k : unknown) {
            refuses(span(-1, 1), UNKNOWN, d -> d.layProduct(k, 0));
            refuses(span(-1, 1), UNKNOWN, d -> d.layProduct(0, k));
            refuses(span(-1, 1), UNKNOWN, d -> d.layProduct(k, k));
        }
        MomentDesk two = TWO.desk();
        laid(two, two.layProduct(2, 2), 0, 1);
        refuses(TWO, UNKNOWN, d -> d.layProduct(3, 0));
        refuses(TWO, UNKNOWN, d -> d.layProduct(0, 3));
    }

    /** "UNKNOWN: .. or a MOMENT is not (i + j)" */
    static void layProductUpToItsMoment() {
        MomentDesk nine = span(-1, 1).shortened(9).desk();
        laid(nine, nine.layProduct(5, 4), 0, 1);
        laid(nine, nine.layProduct(4, 5), 0, 1);
        refuses(span(-1, 1).shortened(9), UNKNOWN, d -> d.layProduct(5, 5));
        MomentDesk three = span(-1, 1).shortened(3).desk();
        laid(three, three.layProduct(2, 1), 0, 1);
        refuses(span(-1, 1).shortened(3), UNKNOWN, d -> d.layProduct(2, 2));
        due(span(-1, 1).shortened(10).desk().layProduct(5, 5) > 0 ? 1 : 0, 1);
    }

    // ---- 16 layShare

    /** "UNKNOWN: P(k) .. not there" */
    static void layShareOfPolysThatAreThere() {
        MomentDesk desk = span(-1, 1).desk();
        laid(desk, desk.layShare(0, 0), 1, 1);
        laid(desk, desk.layShare(5, 5), 1, 1);
        int[] unknown = {-1, 6, LOWEST, HIGHEST};
        for (int k : unknown) {
            refuses(span(-1, 1), UNKNOWN, d -> d.layShare(0, k));
        }
        refuses(TWO, UNKNOWN, d -> d.layShare(0, 3));
    }

    /** "UNKNOWN: .. WORTH(k) .. not there": though P(k) and MOMENT d + k are. */
    static void layShareOfWorthsThatAreThere() {
        refuses(span(-1, 1).shortened(9), UNKNOWN, d -> d.layShare(0, 5));
        refuses(span(-1, 1).shortened(9), UNKNOWN, d -> d.layShare(4, 5));
        MomentDesk ten = span(-1, 1).shortened(10).desk();
        laid(ten, ten.layShare(0, 5), 0, 1);
        laid(ten, ten.layShare(5, 5), 1, 1);
        refuses(span(-1, 1).shortened(3), UNKNOWN, d -> d.layShare(0, 2));
        MomentDesk three = span(-1, 1).shortened(3).desk();
        laid(three, three.layShare(1, 1), 1, 1);
    }

    /** "UNKNOWN: .. MOMENT d + k .. not there" */
    static void layShareUpToItsMoment() {
        MomentDesk desk = span(0, 1).desk();
        laid(desk, desk.layShare(11, 0), 1, 12);
        for (int k = 0; k <= 5; k++) {
            int degree = k;
            due(desk.layShare(11 - k, k), 1);
            refuses(span(0, 1), UNKNOWN, d -> d.layShare(12 - degree, degree));
        }
        refuses(span(0, 1), UNKNOWN, d -> d.layShare(HIGHEST, 0));
        refuses(span(0, 1), UNKNOWN, d -> d.layShare(HIGHEST, 5));
        Setup three = told(1, 0, 1).shortened(3);
        due(three.desk().layShare(2, 1) >= 0 ? 1 : 0, 1);
        refuses(three, UNKNOWN, d -> d.layShare(3, 1));
    }

    /** "UNKNOWN: .. d is below 0" */
    static void layShareFromD0() {
        MomentDesk desk = span(0, 1).desk();
        laid(desk, desk.layShare(0, 1), 0, 1);
        for (int k = 0; k <= 5; k++) {
            int degree = k;
            refuses(span(0, 1), UNKNOWN, d -> d.layShare(-1, degree));
        }
        refuses(span(0, 1), UNKNOWN, d -> d.layShare(LOWEST, 0));
        refuses(span(0, 1), UNKNOWN, d -> d.layShare(LOWEST, LOWEST));
    }

    /** "NO: WORTH(k) is 0." */
    static void layShareByAWorthThatIsNot0() {
        MomentDesk desk = TWO.desk();
        laid(desk, desk.layShare(2, 1), 3, 1);
        refuses(TWO, NO, d -> d.layShare(0, 2));
        refuses(TWO, NO, d -> d.layShare(9, 2));
        refuses(nothing(), NO, d -> d.layShare(0, 0));
        refuses(nothing(), NO, d -> d.layShare(11, 0));
        // a WORTH below 0 is not 0
        MomentDesk below = told(-2, 1).desk();
        laid(below, below.layShare(1, 0), -1, 2);
    }

    // ---- 17 layKernel

    /** "UNKNOWN: a WORTH up to n is not there" */
    static void layKernelOfWorthsThatAreThere() {
        MomentDesk desk = span(-1, 1).desk();
        laid(desk, desk.layKernel(0, 5, 6), 1, 55440);
        laid(desk, desk.layKernel(5, 1, 1), 1, 1540);
        int[] unknown = {-1, 6, LOWEST, HIGHEST};
        for (int n : unknown) {
            refuses(span(-1, 1), UNKNOWN, d -> d.layKernel(n, 0, 0));
        }
        refuses(TWO, UNKNOWN, d -> d.layKernel(3, 0, 0));
        for (int n = 2; n <= 5; n++) {
            int most = n;
            refuses(span(-1, 1).shortened(2 * n - 1), UNKNOWN, d -> d.layKernel(most, 0, 0));
            due(span(-1, 1).shortened(2 * n).desk().layKernel(n, 0, 0) > 0 ? 1 : 0, 1);
        }
    }

    /** "OUTSIDE: x, y are above 1000 in size": each alone is enough. */
    static void layKernelXAndYUpTo1000() {
        MomentDesk desk = span(-1, 1).desk();
        laid(desk, desk.layKernel(1, 1000, 1000), 3000001, 55440);
        laid(desk, desk.layKernel(1, -1000, 1000), -2999999, 55440);
        laid(desk, desk.layKernel(1, 1000, -1000), -2999999, 55440);
        laid(desk, desk.layKernel(1, -1000, -1000), 3000001, 55440);
        int[] outside = {1001, -1001, LOWEST, HIGHEST};
        for (int far : outside) {
            refuses(span(-1, 1), OUTSIDE, d -> d.layKernel(1, far, 0));
            refuses(span(-1, 1), OUTSIDE, d -> d.layKernel(1, 0, far));
            refuses(span(-1, 1), OUTSIDE, d -> d.layKernel(0, far, far));
        }
    }

    /** "NO: one is 0." */
    static void layKernelOfWorthsThatAreNot0() {
        MomentDesk desk = TWO.desk();
        laid(desk, desk.layKernel(1, 3, 3), 1, 2);
        refuses(TWO, NO, d -> d.layKernel(2, 3, 3));
        refuses(TWO, NO, d -> d.layKernel(2, 0, 0));
        refuses(nothing(), NO, d -> d.layKernel(0, 0, 0));
        MomentDesk five = evenList(-2, 5).desk();
        due(five.layKernel(4, 0, 0), 1);
        refuses(evenList(-2, 5), NO, d -> d.layKernel(5, 0, 0));
        MomentDesk below = told(-2, 0, 4).desk();
        laid(below, below.layKernel(1, 1, 1), -1, 4);
    }

    // ---- 18 layLeft

    /** "UNKNOWN: P(n) .. not there" */
    static void layLeftOfPolysThatAreThere() {
        MomentDesk desk = span(-1, 1).desk();
        laid(desk, desk.layLeft(1, 2), 18480, 1);
        due(desk.layLeft(5, 10), 1);
        int[] unknown = {-1, 6, LOWEST, HIGHEST};
        for (int n : unknown) {
            refuses(span(-1, 1), UNKNOWN, d -> d.layLeft(n, 0));
        }
        MomentDesk two = TWO.desk();
        laid(two, two.layLeft(2, 11), 0, 1);
        refuses(TWO, UNKNOWN, d -> d.layLeft(3, 0));
        refuses(nothing(), UNKNOWN, d -> d.layLeft(1, 0));
    }

    /** "UNKNOWN: .. MOMENT d .. not there" */
    static void layLeftUpToItsMoment() {
        MomentDesk desk = span(0, 1).desk();
        long[][] atEleven = {{587895, 256}, {279125, 216}, {1899051, 8000}, {7293, 490}, {55, 252}};
        for (int n = 1; n <= 5; n++) {
            int degree = n;
            laid(desk, desk.layLeft(n, 11), atEleven[n - 1][0], atEleven[n - 1][1]);
            refuses(span(0, 1), UNKNOWN, d -> d.layLeft(degree, 12));
            refuses(span(0, 1), UNKNOWN, d -> d.layLeft(degree, HIGHEST));
        }
        MomentDesk nine = span(-1, 1).shortened(9).desk();
        laid(nine, nine.layLeft(5, 9), 0, 1);
        refuses(span(-1, 1).shortened(9), UNKNOWN, d -> d.layLeft(5, 10));
        refuses(span(-1, 1).shortened(9), UNKNOWN, d -> d.layLeft(1, 10));
    }

    /** The same with MOMENTS that are told, of which some WORTHS are below 0. */
    static void layLeftUpToItsMomentOfToldOnes() {
        MomentDesk desk = told(3, 1, 4, 1, 5, 9, 2, 6, 5, 3, 5, 8).desk();
        long[][] atEleven = {{472391, 59049}, {2022844102, 214358881}, {-3956880890951L, 4096},
            {-20097180099731L, 244242535681L}, {-495304539, 291248356}};
        for (int n = 1; n <= 5; n++) {
            laid(desk, desk.layLeft(n, 11), atEleven[n - 1][0], atEleven[n - 1][1]);
        }
    }

    /** "UNKNOWN: .. n is 0" */
    static void layLeftFromN1() {
        for (int d = 0; d <= 11; d++) {
            int power = d;
            refuses(span(0, 1), UNKNOWN, desk -> desk.layLeft(0, power));
            due(span(0, 1).desk().layLeft(1, d), d < 2 ? 0 : 1);
        }
        refuses(nothing(), UNKNOWN, desk -> desk.layLeft(0, 0));
    }

    /** "UNKNOWN: .. d is below 0" */
    static void layLeftFromD0() {
        MomentDesk desk = span(0, 1).desk();
        for (int n = 1; n <= 5; n++) {
            int degree = n;
            laid(desk, desk.layLeft(n, 0), 0, 1);
            refuses(span(0, 1), UNKNOWN, d -> d.layLeft(degree, -1));
            refuses(span(0, 1), UNKNOWN, d -> d.layLeft(degree, LOWEST));
        }
    }

    /** What lays a fraction leaves WEIGHTS and what is kept as they are. */
    static void layingLeavesWeights() {
        Call[] calls = {d -> d.layMoment(11), d -> d.layWorth(2), d -> d.layDeterminant(6), d -> d.layNumber(2, 9),
            d -> d.layRule(1, 0), d -> d.layRule(1, 1), d -> d.layValue(2, 999999, MILLION), d -> d.layProduct(2, 2),
            d -> d.layShare(9, 1), d -> d.layKernel(1, 1000, -1000), d -> d.layLeft(2, 11)};
        for (Call call : calls) {
            due(call.on(TWO.desk()) < 0 ? 0 : 1, 1);
            leavesAll(TWO.then(d -> d.layMoment(3)), 1, d -> {
                call.on(d);
                return d.layMoment(3);
            });
        }
    }
}
