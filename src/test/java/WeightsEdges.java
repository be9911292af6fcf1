/** The boundary cases that promises 1 to 8 name, a test for each sentence. */
public final class WeightsEdges extends Bench {
    public static void main(String[] args) {
        run(WeightsEdges.class);
    }

    // ---- 1 a new object

    /** "A LIST without POINTS: all MOMENTS are 0." */
    static void newDeskIsEmpty() {
        MomentDesk desk = new MomentDesk();
        state(desk, 0, 11, 0, 0);
        for (int k = 0; k <= 11; k++) {
            laid(desk, desk.layMoment(k), 0, 1);
        }
        refusesOnNew(nothing(), UNKNOWN, d -> d.layMoment(12));
        refusesOnNew(nothing(), UNKNOWN, d -> d.back(0));
        refusesOnNew(nothing(), UNKNOWN, d -> d.back(1));
    }

    // ---- 2 clear

    /** "LAST is 11: LAST as it was": the greatest and the least that it can have been. */
    static void clearAnswersLastAsItWas() {
        for (int last = 3; last <= 11; last++) {
            MomentDesk desk = span(0, 1).shortened(last).desk();
            due(desk.clear(), last);
            due(desk.told(1), 11);
            due(desk.clear(), 11);
        }
    }

    /** "A LIST without POINTS": nothing of a full list, of its weights, of what is told or changed is left. */
    static void clearLeavesNoPoints() {
        MomentDesk full = evenList(-5, 10).desk();
        full.point(-5, 98);
        due(full.clear(), 11);
        state(full, 0, 11, 0, 0);
        due(full.point(9, 99), 1);
        due(full.point(-5, 99), 2);
        laid(full, full.layMoment(1), 4 * 99, 1);
        MomentDesk changed = list(1, 1).then(d -> d.mirror(0)).desk();
        due(changed.clear(), 11);
        due(changed.point(1, 1), 1);
        MomentDesk told = told(1, 2, 3).desk();
        due(told.clear(), 11);
        due(told.moment(11, 4), 1);
        MomentDesk spread = span(0, 1).desk();
        due(spread.clear(), 11);
        for (int k = 0; k <= 11; k++) {
            due(spread.layMoment(k), 0);
        }
    }

    /** What is kept and THE HAND are no WEIGHTS: clear() leaves them. */
    static void clearLeavesWhatIsKept() {
        MomentDesk desk = list(4, 5).desk();
        desk.keep(0);
        desk.layMoment(1);
        due(desk.clear(), 11);
        inHand(desk, 20, 1);
        due(desk.back(0), 11);
        due(desk.told(2), 1);
    }

    // ---- 3 point

    /** "POINTS x (-9 to 9)"; "OUTSIDE" */
    static void pointXFromMinus9To9() {
        for (int x = -9; x <= 9; x++) {
            MomentDesk desk = new MomentDesk();
            due(desk.point(x, 3), 1);
            laid(desk, desk.layMoment(1), 3 * x, 1);
        }
        int[] outside = {-10, 10, LOWEST, HIGHEST};
        for (int x : outside) {
            refuses(list(1, 2), OUTSIDE, d -> d.point(x, 1));
        }
    }

    /** "weights (-99 to 99 ..)"; "OUTSIDE" */
    static void pointWeightFromMinus99To99() {
        int[] allowed = {-99, -1, 1, 99};
        for (int weight : allowed) {
            MomentDesk desk = new MomentDesk();
            due(desk.point(2, weight), 1);
            laid(desk, desk.layMoment(0), weight, 1);
        }
        int[] outside = {-100, 100, LOWEST, HIGHEST};
        for (int weight : outside) {
            refuses(list(1, 2), OUTSIDE, d -> d.point(2, weight));
            refuses(list(1, 2), OUTSIDE, d -> d.point(1, weight));
        }
    }

    /** A weight is "not 0"; "OUTSIDE" */
    static void pointWeightIsNot0() {
        refuses(list(1, 2), OUTSIDE, d -> d.point(2, 0));
        refuses(list(1, 2), OUTSIDE, d -> d.point(1, 0));
        refuses(nothing(), OUTSIDE, d -> d.point(1, 0));
    }

    /** "or more weight of one that is there": it is no other POINT. */
    static void pointThatIsThereTakesMore() {
        MomentDesk desk = list(3, 5, 4, 1).desk();
        due(desk.point(3, 94), 2);
        laid(desk, desk.layMoment(1), 99 * 3 + 4, 1);
        due(desk.point(3, -99), 1);
        due(desk.point(3, -99), 2);
        laid(desk, desk.layMoment(1), -99 * 3 + 4, 1);
    }

    /** "(with 0 in all it goes)" */
    static void pointOf0InAllGoes() {
        MomentDesk desk = list(3, 5).desk();
        due(desk.point(3, -4), 1);
        due(desk.point(3, -1), 0);
        state(desk, 0, 11, 0, 0);
        laid(desk, desk.layMoment(0), 0, 1);
        laid(desk, desk.layMoment(11), 0, 1);
        due(desk.point(3, 99), 1);
        MomentDesk full = evenList(-4, 10).desk();
        due(full.point(0, -1), 9);
        due(full.point(9, 1), 10);
        due(full.point(0, 1), -4);
    }

    /** "up to 10 POINTS"; "FULL: 10" */
    static void pointUpToTen() {
        MomentDesk desk = new MomentDesk();
        for (int i = 1; i <= 10; i++) {
            due(desk.point(i - 10, i), i);
        }
        due(desk.told(2), 10);
        refuses(evenList(-9, 10), FULL, d -> d.point(1, 1));
        refuses(evenList(-9, 10), FULL, d -> d.point(9, -99));
        due(evenList(-9, 9).desk().point(9, 1), 10);
        // one that is there is no eleventh
        due(desk.point(-9, 98), 10);
        due(desk.point(0, -10), 9);
    }

    /** "NO: its weight would be above 99 in size." */
    static void pointWeightUpTo99InAll() {
        due(list(3, 98).desk().point(3, 1), 1);
        due(list(3, -98).desk().point(3, -1), 1);
        due(list(3, 99).desk().point(3, -99), 0);
        MomentDesk turned = list(3, 99, 3, -99, 3, -99).desk();
        laid(turned, turned.layMoment(0), -99, 1);
        refuses(list(3, 98), NO, d -> d.point(3, 2));
        refuses(list(3, 99), NO, d -> d.point(3, 1));
        refuses(list(3, 99), NO, d -> d.point(3, 99));
        refuses(list(3, -98), NO, d -> d.point(3, -2));
        refuses(list(3, -99), NO, d -> d.point(3, -99));
        refuses(evenList(-9, 10), NO, d -> d.point(-9, 99));
    }

    /** "STATE: WEIGHTS are no LIST" */
    static void pointNeedsAList() {
        refuses(told(1), STATE, d -> d.point(1, 1));
        refuses(told(0), STATE, d -> d.point(1, 1));
        refuses(span(0, 1), STATE, d -> d.point(1, 1));
        refuses(counted(0, 1, 0, 0), STATE, d -> d.point(1, 1));
        due(span(0, 1).then(d -> d.clear()).desk().point(1, 1), 1);
    }

    /** "STATE: .. or CHANGED" */
    static void pointNeedsAListThatIsNotChanged() {
        refuses(list(1, 1).then(d -> d.by(0)), STATE, d -> d.point(1, 1));
        refuses(list(1, 1).then(d -> d.mirror(0)), STATE, d -> d.point(1, 1));
        refuses(nothing().then(d -> d.by(0)), STATE, d -> d.point(1, 1));
        refuses(nothing().then(d -> d.mirror(0)), STATE, d -> d.point(1, 1));
        // refused changes are none
        due(list(1, 1).then(d -> d.by(10)).then(d -> d.mirror(10)).desk().point(1, 1), 1);
    }

    // ---- 4 moment

    /** "MOMENT k (0 to 11)"; "UNKNOWN" */
    static void momentKFrom0To11() {
        for (int k = 0; k <= 11; k++) {
            MomentDesk desk = new MomentDesk();
            due(desk.moment(k, 5), 1);
            laid(desk, desk.layMoment(k), 5, 1);
        }
        int[] unknown = {-1, 12, LOWEST, HIGHEST};
        for (int k : unknown) {
            refuses(told(1, 2), UNKNOWN, d -> d.moment(k, 5));
            refuses(nothing(), UNKNOWN, d -> d.moment(k, 5));
        }
    }

    /** "OUTSIDE: v is above 1000000 in size" */
    static void momentUpToAMillion() {
        MomentDesk desk = new MomentDesk();
        due(desk.moment(3, 1000000), 1);
        laid(desk, desk.layMoment(3), 1000000, 1);
        due(desk.moment(3, -1000000), 1);
        laid(desk, desk.layMoment(3), -1000000, 1);
        int[] outside = {1000001, -1000001, LOWEST, HIGHEST};
        for (int v : outside) {
            refuses(told(1, 2), OUTSIDE, d -> d.moment(1, v));
            refuses(nothing(), OUTSIDE, d -> d.moment(1, v));
        }
    }

    /** "the others as they were told (0 at first): how many are not 0" */
    static void momentCountsThoseThatAreNot0() {
        MomentDesk desk = new MomentDesk();
        due(desk.moment(0, 0), 0);
        for (int k = 0; k <= 11; k++) {
            due(desk.moment(k, k - 20), k + 1);
        }
        for (int k = 0; k <= 11; k++) {
            laid(desk, desk.layMoment(k), k - 20, 1);
        }
        for (int k = 0; k <= 11; k++) {
            due(desk.moment(k, 0), 11 - k);
        }
    }

    /** "WEIGHTS are TOLD then, if they were a LIST without POINTS": told 0 they are TOLD too. */
    static void momentMakesAnEmptyListTold() {
        MomentDesk desk = new MomentDesk();
        due(desk.moment(5, 0), 0);
        state(desk, 1, 11, 0, 0);
        MomentDesk emptied = list(3, 4, 3, -4).desk();
        due(emptied.moment(0, 9), 1);
        state(emptied, 1, 11, 0, 0);
        MomentDesk cleared = span(0, 1).then(d -> d.clear()).desk();
        due(cleared.moment(0, 9), 1);
    }

    /** "STATE: WEIGHTS are others" */
    static void momentNeedsToldOrAnEmptyList() {
        refuses(list(1, 1), STATE, d -> d.moment(0, 1));
        refuses(evenList(0, 10), STATE, d -> d.moment(0, 0));
        refuses(span(0, 1), STATE, d -> d.moment(0, 1));
        refuses(counted(0, 1, 0, 0), STATE, d -> d.moment(0, 1));
        // weights that are there, though all moments that can be asked for are 0 at the even places
        refuses(list(1, 1, -1, -1), STATE, d -> d.moment(0, 0));
    }

    /** "STATE: .. or CHANGED" */
    static void momentNeedsWeightsThatAreNotChanged() {
        refuses(told(1, 2), UNKNOWN, d -> d.moment(12, 1));
        refuses(told(1, 2).then(d -> d.by(0)), STATE, d -> d.moment(0, 1));
        refuses(told(1, 2).then(d -> d.mirror(0)), STATE, d -> d.moment(0, 1));
        refuses(nothing().then(d -> d.by(0)), STATE, d -> d.moment(0, 1));
        refuses(nothing().then(d -> d.mirror(0)), STATE, d -> d.moment(0, 1));
        due(told(1, 2).then(d -> d.by(-10)).then(d -> d.mirror(-10)).desk().moment(2, 1), 3);
    }

    /** "UNKNOWN" is for 12 on, however few MOMENTS are there: what comes first is STATE then. */
    static void momentBeyondLastIsNotUnknown() {
        refuses(told(1, 2).shortened(3), STATE, d -> d.moment(11, 1));
        refuses(told(1, 2).shortened(3), STATE, d -> d.moment(4, 1));
        refuses(told(1, 2).shortened(3), UNKNOWN, d -> d.moment(12, 1));
    }

    // ---- 5 span

    /** "OUTSIDE: not -9 <= a": the least a. */
    static void spanFromMinus9() {
        MomentDesk desk = new MomentDesk();
        due(desk.span(-9, -8), 1);
        laid(desk, desk.layMoment(0), 27720, 1);
        laid(desk, desk.layMoment(1), -13860 * 17, 1);
        refuses(list(1, 2), OUTSIDE, d -> d.span(-10, -9));
        refuses(list(1, 2), OUTSIDE, d -> d.span(-10, 9));
        refuses(span(0, 1), OUTSIDE, d -> d.span(LOWEST, 0));
    }

    /** "OUTSIDE: not .. b <= 9": the greatest b. */
    static void spanUpTo9() {
        MomentDesk desk = new MomentDesk();
        due(desk.span(8, 9), 1);
        laid(desk, desk.layMoment(1), 13860 * 17, 1);
        due(desk.span(-9, 9), 1);
        laid(desk, desk.layMoment(0), 27720 * 18, 1);
        refuses(list(1, 2), OUTSIDE, d -> d.span(9, 10));
        refuses(list(1, 2), OUTSIDE, d -> d.span(-9, 10));
        refuses(span(0, 1), OUTSIDE, d -> d.span(0, HIGHEST));
    }

    /** "OUTSIDE: not .. a < b" */
    static void spanHasAWidth() {
        for (int a = -9; a <= 9; a++) {
            int at = a;
            refuses(list(1, 2), OUTSIDE, d -> d.span(at, at));
            refuses(told(1, 2), OUTSIDE, d -> d.span(at, at - 1));
            due(new MomentDesk().span(a, a + 1), a < 9 ? 1 : -2);
        }
        refuses(span(0, 1), OUTSIDE, d -> d.span(HIGHEST, LOWEST));
        refuses(span(0, 1), OUTSIDE, d -> d.span(9, -9));
    }

    /** "A SPAN: 1": whatever the WEIGHTS were. */
    static void spanInEachState() {
        Setup[] others = {nothing(), evenList(-9, 10), told(1), counted(1, 6, 3, 3), list(1, 1).shortened(3)};
        for (Setup other : others) {
            MomentDesk desk = other.desk();
            due(desk.span(2, 4), 1);
            state(desk, 2, 11, 0, 0);
            laid(desk, desk.layMoment(0), 27720 * 2, 1);
        }
    }

    // ---- 6 counted

    /** "0 EVEN (.., 1 COINS .., 2 PICKS ..)"; "OUTSIDE" */
    static void countedWhichFrom0To2() {
        MomentDesk desk = new MomentDesk();
        due(desk.counted(0, 2, 3, 3), 3);
        laid(desk, desk.layMoment(0), 3, 1);
        due(desk.counted(1, 2, 3, 3), 3);
        laid(desk, desk.layMoment(0), 36, 1);
        due(desk.counted(2, 2, 3, 3), 3);
        laid(desk, desk.layMoment(0), 15, 1);
        int[] outside = {-1, 3, LOWEST, HIGHEST};
        for (int which : outside) {
            refuses(list(1, 2), OUTSIDE, d -> d.counted(which, 2, 3, 3));
            refuses(counted(0, 1, 0, 0), OUTSIDE, d -> d.counted(which, 1, 1, 1));
        }
    }

    /** "EVEN (n 1 to 9 ..)" */
    static void countedEvenNFrom1To9() {
        for (int n = 1; n <= 9; n++) {
            MomentDesk desk = new MomentDesk();
            due(desk.counted(0, n, 1, 1), n + 1);
            laid(desk, desk.layMoment(1), n * (n + 1) / 2, 1);
        }
        int[] outside = {0, 10, -1, LOWEST, HIGHEST};
        for (int n : outside) {
            refuses(list(1, 2), OUTSIDE, d -> d.counted(0, n, 1, 1));
        }
    }

    /** "EVEN (..; u, v do not matter)" */
    static void countedEvenWhateverUAndV() {
        int[] any = {LOWEST, -1, 0, 10, HIGHEST};
        for (int u : any) {
            for (int v : any) {
                MomentDesk desk = new MomentDesk();
                due(desk.counted(0, 9, u, v), 10);
                laid(desk, desk.layMoment(2), 285, 1);
            }
        }
    }

    /** "COINS (n 1 to 6 ..)" */
    static void countedCoinsNFrom1To6() {
        for (int n = 1; n <= 6; n++) {
            MomentDesk desk = new MomentDesk();
            due(desk.counted(1, n, 1, 1), n + 1);
            laid(desk, desk.layMoment(0), 1 << n, 1);
        }
        int[] outside = {0, 7, 9, LOWEST, HIGHEST};
        for (int n : outside) {
            refuses(list(1, 2), OUTSIDE, d -> d.counted(1, n, 1, 1));
        }
    }

    /** "COINS (.. u, v 1 to 3)" */
    static void countedCoinsUAndVFrom1To3() {
        for (int u = 1; u <= 3; u++) {
            for (int v = 1; v <= 3; v++) {
                MomentDesk desk = new MomentDesk();
                due(desk.counted(1, 6, u, v), 7);
                laid(desk, desk.layMoment(0), Math.round(Math.pow(u + v, 6)), 1);
                laid(desk, desk.layMoment(1), 6 * u * Math.round(Math.pow(u + v, 5)), 1);
            }
        }
        int[] outside = {0, 4, -1, LOWEST, HIGHEST};
        for (int number : outside) {
            refuses(list(1, 2), OUTSIDE, d -> d.counted(1, 6, number, 1));
            refuses(list(1, 2), OUTSIDE, d -> d.counted(1, 6, 3, number));
        }
    }

    /** "PICKS (n 1 to 6 ..)" */
    static void countedPicksNFrom1To6() {
        int[] all = {18, 153, 816, 3060, 8568, 18564};
        for (int n = 1; n <= 6; n++) {
            MomentDesk desk = new MomentDesk();
            due(desk.counted(2, n, 9, 9), n + 1);
            laid(desk, desk.layMoment(0), all[n - 1], 1);
        }
        int[] outside = {0, 7, -1, LOWEST, HIGHEST};
        for (int n : outside) {
            refuses(list(1, 2), OUTSIDE, d -> d.counted(2, n, 9, 9));
        }
    }

    /** "PICKS (.. u, v 1 to 9 ..)" */
    static void countedPicksUAndVFrom1To9() {
        MomentDesk desk = new MomentDesk();
        for (int number = 1; number <= 9; number++) {
            due(desk.counted(2, 1, number, 9), 2);
            laid(desk, desk.layMoment(1), number, 1);
            due(desk.counted(2, 1, 9, number), 2);
            laid(desk, desk.layMoment(0), 9 + number, 1);
        }
        int[] outside = {0, 10, -1, LOWEST, HIGHEST};
        for (int number : outside) {
            refuses(list(1, 2), OUTSIDE, d -> d.counted(2, 1, number, 9));
            refuses(list(1, 2), OUTSIDE, d -> d.counted(2, 1, 9, number));
        }
        refuses(list(1, 2), OUTSIDE, d -> d.counted(2, 6, HIGHEST, HIGHEST));
    }

    /** "PICKS (.. not together below n)" */
    static void countedPicksAreNotTogetherBelowN() {
        for (int n = 2; n <= 6; n++) {
            for (int u = 1; u < n; u++) {
                int picks = n;
                int first = u;
                MomentDesk desk = new MomentDesk();
                due(desk.counted(2, n, u, n - u), 1);
                laid(desk, desk.layMoment(1), u, 1);
                if (n - u > 1) {
                    refuses(list(1, 2), OUTSIDE, d -> d.counted(2, picks, first, picks - first - 1));
                }
            }
        }
    }

    /** "how many POINTS have a weight that is not 0" */
    static void countedCountsWeightsThatAreNot0() {
        due(new MomentDesk().counted(2, 6, 1, 9), 2);
        due(new MomentDesk().counted(2, 6, 9, 1), 2);
        due(new MomentDesk().counted(2, 6, 5, 9), 6);
        due(new MomentDesk().counted(2, 6, 6, 9), 7);
        due(new MomentDesk().counted(2, 6, 3, 3), 1);
        due(new MomentDesk().counted(2, 1, 1, 1), 2);
    }

    /** "COUNTED": whatever the WEIGHTS were. */
    static void countedInEachState() {
        Setup[] others = {nothing(), evenList(-9, 10), told(1), span(0, 1), list(1, 1).shortened(3)};
        for (Setup other : others) {
            MomentDesk desk = other.desk();
            due(desk.counted(0, 2, 0, 0), 3);
            state(desk, 3, 11, 0, 0);
            laid(desk, desk.layMoment(0), 3, 1);
        }
    }

    // ---- 7 by

    /** "BY a factor x less c (-9 to 9)"; "OUTSIDE" */
    static void byCFromMinus9To9() {
        for (int c = -9; c <= 9; c++) {
            MomentDesk desk = list(2, 3).desk();
            due(desk.by(c), 10);
            laid(desk, desk.layMoment(0), 3 * (2 - c), 1);
            laid(desk, desk.layMoment(10), 3 * 1024 * (2 - c), 1);
        }
        int[] outside = {-10, 10, LOWEST, HIGHEST};
        for (int c : outside) {
            refuses(list(1, 2), OUTSIDE, d -> d.by(c));
            refuses(list(1, 2).shortened(3), OUTSIDE, d -> d.by(c));
        }
    }

    /** "STATE: LAST is 3" */
    static void byDownToLast3() {
        Setup[] others = {nothing(), list(1, 2), told(1, 2), span(0, 1), counted(0, 3, 0, 0)};
        for (Setup other : others) {
            due(other.shortened(4).desk().by(0), 3);
            for (int c = -9; c <= 9; c += 9) {
                int factor = c;
                refuses(other.shortened(3), STATE, d -> d.by(factor));
            }
        }
    }

    /** "MOMENT k becomes MOMENT k + 1 less c times MOMENT k; LAST is one less": for all k that are left. */
    static void byTakesTheMomentBehind() {
        MomentDesk desk = told(1, 10, 200, 3000, 40000, 500000, 6, 7, 8, 9, 10, 11).desk();
        due(desk.by(2), 10);
        long[] due = {8, 180, 2600, 34000, 420000, 6 - 1000000, 7 - 12, 8 - 14, 9 - 16, 10 - 18, 11 - 20};
        for (int k = 0; k <= 10; k++) {
            laid(desk, desk.layMoment(k), due[k], 1);
        }
        due(desk.layMoment(11), -1);
        due(desk.told(3), 1);
    }

    /** "FULL: a MOMENT would be too great": MOMENT 11, which goes, is not looked at. */
    static void byOnlyLooksAtMomentsThatAreLeft() {
        MomentDesk desk = movedUp(128, 0, 0, 0, 0, 0, 0, 0, 0, 0, 0, -1).desk();
        due(desk.by(0), 10);
        laid(desk, desk.layMoment(10), (1L << 62) - 1, 1);
        due(desk.by(9), 9);
        due(desk.told(1), 9);
        refuses(movedUp(128, 0, 0, 0, 0, 0, 0, 0, 0, 0, 0, -1), FULL, d -> d.by(-9));
        refuses(movedUp(128, 0, 0, 0, 0, 0, 0, 0, 0, 0, 0, -1), FULL, d -> d.by(-1));
    }

    /** A factor that meets the only POINT leaves MOMENTS of 0, and the WEIGHTS are CHANGED ones all the same. */
    static void byThePointItself() {
        MomentDesk desk = list(4, 7).desk();
        due(desk.by(4), 10);
        for (int k = 0; k <= 10; k++) {
            due(desk.layMoment(k), 0);
        }
        due(desk.told(3), 1);
        due(desk.few(), 0);
    }

    // ---- 8 mirror

    /** "IN A MIRROR c (-9 to 9): 1"; "OUTSIDE" */
    static void mirrorCFromMinus9To9() {
        for (int c = -9; c <= 9; c++) {
            MomentDesk desk = list(2, 3).desk();
            due(desk.mirror(c), 1);
            laid(desk, desk.layMoment(0), 3, 1);
            laid(desk, desk.layMoment(1), 3 * (c - 2), 1);
            laid(desk, desk.layMoment(11), 3 * Math.round(Math.pow(c - 2, 11)), 1);
            due(desk.told(1), 11);
            due(desk.told(3), 1);
        }
        int[] outside = {-10, 10, LOWEST, HIGHEST};
        for (int c : outside) {
            refuses(list(1, 2), OUTSIDE, d -> d.mirror(c));
            refuses(list(1, 2).shortened(3), OUTSIDE, d -> d.mirror(c));
        }
    }

    /** "FULL: a MOMENT would be too great": only of those that are there. */
    static void mirrorOnlyLooksAtMomentsThatAreThere() {
        Setup great = told(128).then(d -> d.mirror(-8)).then(d -> d.mirror(8)).then(d -> d.mirror(-8));
        refuses(great, FULL, d -> d.mirror(8));
        MomentDesk fewer = great.then(d -> d.by(0)).desk();
        // 24 to the 10 times -24 at first, 32 to the 10 times -24 then
        due(fewer.mirror(8), 1);
        laid(fewer, fewer.layMoment(10), -24L * 128 << 50, 1);
        due(fewer.told(1), 10);
    }

    /** A mirror is allowed at LAST 3, where a factor is not. */
    static void mirrorAtLast3() {
        MomentDesk desk = told(0, 0, 0, 0, 0, 0, 0, 0, 1, 2, 3, 4).desk();
        for (int last = 10; last >= 3; last--) {
            due(desk.by(0), last);
        }
        due(desk.mirror(1), 1);
        due(desk.told(1), 3);
        laid(desk, desk.layMoment(0), 1, 1);
        laid(desk, desk.layMoment(1), 1 - 2, 1);
        laid(desk, desk.layMoment(2), 1 - 2 * 2 + 3, 1);
        laid(desk, desk.layMoment(3), 1 - 3 * 2 + 3 * 3 - 4, 1);
    }

    /** A mirror that leaves all as it was makes CHANGED weights too. */
    static void mirrorInTheMiddle() {
        MomentDesk desk = new MomentDesk();
        due(desk.mirror(9), 1);
        state(desk, 0, 11, 0, 1);
        desk = span(-1, 1).desk();
        due(desk.mirror(0), 1);
        state(desk, 2, 11, 0, 1);
        laid(desk, desk.layMoment(2), 18480, 1);
    }
}
