/** The boundary cases that promises 28 to 30 name, a test for each sentence. */
public final class KeptEdges extends Bench {
    private static final int[] NO_PLACES = {-1, 2, LOWEST, HIGHEST};

    public static void main(String[] args) {
        run(KeptEdges.class);
    }

    // ---- 28 keep

    /** "kept at a place (0, 1): 1. UNKNOWN." */
    static void keepAtPlaces0And1() {
        MomentDesk desk = list(1, 2).desk();
        due(desk.keep(0), 1);
        due(desk.keep(1), 1);
        due(desk.keep(1), 1);
        for (int place : NO_PLACES) {
            refuses(list(1, 2), UNKNOWN, d -> d.keep(place));
            refusesOnNew(list(1, 2), UNKNOWN, d -> d.keep(place));
        }
    }

    /** A place holds what was kept there last, and nothing of the other place. */
    static void keepAgainAtTheSamePlace() {
        MomentDesk desk = list(1, 2).desk();
        desk.keep(0);
        desk.span(0, 1);
        desk.keep(1);
        desk.counted(0, 4, 0, 0);
        due(desk.keep(0), 1);
        desk.clear();
        due(desk.back(0), 11);
        due(desk.told(0), 3);
        due(desk.back(1), 11);
        due(desk.told(0), 2);
    }

    /** What is kept does not go along with later changes of the WEIGHTS. */
    static void keptWeightsStandStill() {
        MomentDesk desk = list(1, 2, 4, 5).desk();
        due(desk.keep(0), 1);
        desk.point(4, -5);
        desk.by(3);
        due(desk.back(0), 11);
        state(desk, 0, 11, 2, 0);
        laid(desk, desk.layMoment(1), 22, 1);
        desk.mirror(2);
        due(desk.back(0), 11);
        laid(desk, desk.layMoment(1), 22, 1);
    }

    /** A LIST without POINTS can be kept too. */
    static void keepNothing() {
        MomentDesk desk = new MomentDesk();
        due(desk.keep(1), 1);
        due(desk.differs(1), NONE);
        desk.span(0, 1);
        due(desk.back(1), 11);
        state(desk, 0, 11, 0, 0);
        laid(desk, desk.layMoment(0), 0, 1);
    }

    /** "MOMENTS, KIND, LAST and all that is told of WEIGHTS": for each KIND, changed and not, at LAST 11 and at 3. */
    static void keepAllThatIsTold() {
        Setup[] each = {list(1, 2, 4, 5), told(1, 2, 3, 4, 5, 6, 7, 8, 9, 10, 11, 12), span(-2, 3), counted(1, 6, 3, 2),
            list(1, 2).then(d -> d.mirror(4)), told(1, 2).shortened(3), span(-2, 3).shortened(4), movedUp(127, 5)};
        for (Setup setup : each) {
            MomentDesk desk = setup.desk();
            int[] told = new int[5];
            for (int what = 0; what <= 4; what++) {
                told[what] = desk.told(what);
            }
            due(desk.keep(0), 1);
            desk.counted(0, 9, 0, 0);
            due(desk.back(0), told[1]);
            for (int what = 0; what <= 4; what++) {
                due(desk.told(what), told[what]);
            }
            MomentDesk twin = setup.desk();
            for (int k = 0; k <= 11; k++) {
                due(desk.layMoment(k), twin.layMoment(k));
                due(desk.bits(0), twin.bits(0));
                due(desk.word(0, 0), twin.word(0, 0));
                due(desk.word(0, 3), twin.word(0, 3));
            }
        }
    }

    /** Asking and keeping leave WEIGHTS and THE HAND as they are. */
    static void keepLeavesAll() {
        leavesAll(span(-1, 2).then(d -> d.keep(0)), 1, d -> d.keep(0));
        leavesAll(list(3, 4).then(d -> d.keep(0)), NONE, d -> d.differs(0));
        leavesAll(list(3, 4), 1, d -> d.differs(0));
        leavesAll(list(3, 4), 1, d -> d.differs(1));
    }

    // ---- 29 back

    /** "They are as they were kept: LAST. UNKNOWN": places 0 and 1. */
    static void backFromPlaces0And1() {
        MomentDesk desk = list(1, 2).desk();
        desk.keep(0);
        desk.keep(1);
        due(desk.back(0), 11);
        due(desk.back(1), 11);
        for (int place : NO_PLACES) {
            refuses(list(1, 2), UNKNOWN, d -> d.back(place));
            refusesOnNew(list(1, 2), UNKNOWN, d -> d.back(place));
        }
    }

    /** "UNKNOWN: also nothing is": one place alone may be kept. */
    static void backFromAnEmptyPlace() {
        refusesOnNew(list(1, 2), UNKNOWN, d -> d.back(0));
        refusesOnNew(list(1, 2), UNKNOWN, d -> d.back(1));
        refusesOnNew(list(1, 2).then(d -> d.keep(0)), UNKNOWN, d -> d.back(1));
        refusesOnNew(list(1, 2).then(d -> d.keep(1)), UNKNOWN, d -> d.back(0));
        // what is refused keeps nothing
        refusesOnNew(list(1, 2).then(d -> d.keep(2)).then(d -> d.keep(-1)), UNKNOWN, d -> d.back(0));
        refusesOnNew(list(1, 2).then(d -> d.keep(2)).then(d -> d.keep(-1)), UNKNOWN, d -> d.back(1));
    }

    /** "LAST": from 11 to 3. */
    static void backAnswersLast() {
        for (int last = 3; last <= 11; last++) {
            MomentDesk desk = span(0, 1).shortened(last).desk();
            desk.keep(1);
            desk.clear();
            due(desk.back(1), last);
            due(desk.told(1), last);
            due(desk.layMoment(last) < 0 ? 0 : 1, 1);
            due(desk.layMoment(last + 1), -1);
        }
    }

    /** "as they were kept": what a LIST allows is as it was, at the limits of its weights and of its POINTS. */
    static void backWithWhatTheListAllows() {
        MomentDesk full = evenList(-5, 10).desk();
        full.point(4, 98);
        full.keep(0);
        full.clear();
        due(full.back(0), 11);
        due(full.point(5, 1), -4);
        due(full.point(4, 1), -5);
        due(full.point(4, -99), 9);
        due(full.point(5, 1), 10);
        due(full.back(0), 11);
        due(full.point(5, 1), -4);
        MomentDesk changed = list(1, 1).then(d -> d.mirror(0)).desk();
        changed.keep(0);
        changed.clear();
        changed.back(0);
        due(changed.point(1, 1), -3);
        due(changed.moment(1, 1), -3);
        MomentDesk told = told(1, 2).desk();
        told.keep(1);
        told.span(0, 1);
        told.back(1);
        due(told.moment(2, 1), 3);
        due(told.point(1, 1), -3);
    }

    /** THE HAND is not kept: what was laid since then stays. */
    static void backLeavesTheHand() {
        MomentDesk desk = list(1, 2).desk();
        desk.layMoment(0);
        desk.keep(0);
        desk.point(3, 5);
        laid(desk, desk.layRule(0, 0), 17, 7);
        due(desk.back(0), 11);
        inHand(desk, 17, 7);
        due(desk.keep(1), 1);
        inHand(desk, 17, 7);
    }

    /** Calls that make other WEIGHTS leave what is kept as it is. */
    static void otherWeightsLeaveWhatIsKept() {
        Call[] calls = {d -> d.clear(), d -> d.point(9, 1), d -> d.clear(), d -> d.moment(0, 1), d -> d.span(0, 1),
            d -> d.counted(0, 9, 0, 0), d -> d.by(1), d -> d.mirror(1)};
        MomentDesk desk = list(1, 2).desk();
        desk.keep(0);
        desk.span(2, 3);
        desk.keep(1);
        for (Call call : calls) {
            due(call.on(desk) < 0 ? 0 : 1, 1);
            desk.keep(1);
            due(desk.back(0), 11);
            state(desk, 0, 11, 1, 0);
            laid(desk, desk.layMoment(11), 2, 1);
            desk.back(1);
        }
    }

    /** A place can be taken back as often as one likes. */
    static void backAgain() {
        MomentDesk desk = list(1, 2).desk();
        desk.keep(0);
        for (int i = 0; i < 3; i++) {
            desk.by(4);
            due(desk.back(0), 11);
            state(desk, 0, 11, 1, 0);
        }
    }

    // ---- 30 differs

    /** "UNKNOWN, likewise": places 0 and 1, and nothing is kept. */
    static void differsFromPlaces0And1() {
        for (int place : NO_PLACES) {
            refuses(list(1, 2), UNKNOWN, d -> d.differs(place));
            refusesOnNew(list(1, 2), UNKNOWN, d -> d.differs(place));
        }
        refusesOnNew(list(1, 2), UNKNOWN, d -> d.differs(0));
        refusesOnNew(list(1, 2), UNKNOWN, d -> d.differs(1));
        refusesOnNew(list(1, 2).then(d -> d.keep(0)), UNKNOWN, d -> d.differs(1));
        refusesOnNew(list(1, 2).then(d -> d.keep(1)), UNKNOWN, d -> d.differs(0));
        MomentDesk desk = list(1, 2).desk();
        desk.keep(0);
        desk.keep(1);
        due(desk.differs(0), NONE);
        due(desk.differs(1), NONE);
    }

    /** "The first k for which P(k) is another one there": from 1 to 5, as the MOMENT that is told anew says. */
    static void differsFrom1To5() {
        int[] moments = {10, 0, 20, 0, 100, 0, 900, 0, 20000, 0, 700000, 0};
        for (int k = 0; k <= 11; k++) {
            MomentDesk desk = told(moments).desk();
            due(desk.told(4), 5);
            desk.keep(0);
            desk.moment(k, moments[k] + 1);
            // P(k) needs MOMENTS to 2 k - 1, and P(1) is the same whatever MOMENT 0 is while MOMENT 1 is 0
            due(desk.differs(0), k == 0 ? 2 : k >= 10 ? NONE : k / 2 + 1);
        }
    }

    /** "or is there but here or there": P(points + 1) is there only where WORTH(points) is not 0. */
    static void differsWhereOneIsNotThere() {
        for (int points = 0; points <= 4; points++) {
            int[] moments = new int[12];
            for (int k = 0; k <= 11; k++) {
                for (int x = 0; x < points; x++) {
                    moments[k] += (int) Math.pow(x, k);
                }
            }
            MomentDesk desk = told(moments).desk();
            desk.keep(0);
            due(desk.told(4), points);
            desk.moment(2 * points, moments[2 * points] + 1);
            due(desk.told(4) > points ? 1 : 0, 1);
            due(desk.differs(0), points + 1);
            desk.keep(1);
            desk.back(0);
            due(desk.differs(1), points + 1);
            due(desk.differs(0), NONE);
        }
    }

    /** "or is there but here or there": LAST alone makes the difference. */
    static void differsByLast() {
        MomentDesk desk = list(-5, 3, -1, 1, 2, 4, 6, 2).desk();
        desk.keep(0);
        // at each of these points the four factors together are 180
        int[] factors = {-4, -3, 4, 5};
        for (int c : factors) {
            desk.by(c);
        }
        due(desk.told(1), 7);
        due(desk.told(4), 4);
        due(desk.differs(0), NONE);
        for (int c : factors) {
            desk.by(c);
        }
        due(desk.told(1), 3);
        due(desk.told(4), 2);
        due(desk.differs(0), 3);
        desk.keep(1);
        due(desk.back(0), 11);
        due(desk.differs(1), 3);
    }

    /** "NONE": all are the same, also where WEIGHTS, KIND and MOMENTS are not. */
    static void differsNotByWeightsAlone() {
        MomentDesk desk = list(0, 1, 1, 2, 2, 1).desk();
        desk.keep(0);
        due(desk.counted(1, 2, 1, 1), 3);
        due(desk.differs(0), NONE);
        desk.counted(1, 2, 3, 3);
        due(desk.differs(0), NONE);
        MomentDesk negative = list(0, -1, 1, -2, 2, -1).desk();
        due(negative.differs(1), UNKNOWN);
        negative.keep(1);
        negative.counted(1, 2, 2, 2);
        due(negative.differs(1), NONE);
        MomentDesk none = new MomentDesk();
        none.keep(0);
        none.moment(11, 5);
        due(none.differs(0), NONE);
    }

    /** P(0) is 1 here and there. */
    static void differsNeverAt0() {
        MomentDesk desk = new MomentDesk();
        desk.keep(0);
        desk.point(3, 1);
        due(desk.differs(0), 1);
        desk.clear();
        due(desk.differs(0), NONE);
    }
}
