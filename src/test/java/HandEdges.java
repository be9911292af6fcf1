/** The boundary cases that promises 19 to 22 name, a test for each sentence. */
public final class HandEdges extends Bench {
    /** Lays -1 / 3. */
    private static final Setup THIRD = span(-1, 1).then(desk -> desk.layNumber(2, 0));

    public static void main(String[] args) {
        run(HandEdges.class);
    }

    // ---- 19 sign

    /** "Its sign: 1, 0, 2." */
    static void signOfEach() {
        MomentDesk desk = told(1, -1, 0).desk();
        due(desk.sign(), 0);
        due(desk.layMoment(0), 1);
        due(desk.sign(), 1);
        due(desk.layMoment(1), 2);
        due(desk.sign(), 2);
        due(desk.layMoment(2), 0);
        due(desk.sign(), 0);
    }

    /** A call that is refused lays nothing: the sign is that of before. */
    static void signAfterARefusedCall() {
        MomentDesk desk = THIRD.desk();
        Call[] refused = {d -> d.layMoment(12), d -> d.layWorth(6), d -> d.layDeterminant(7), d -> d.layNumber(6, 0),
            d -> d.layRule(5, 0), d -> d.layRule(0, 2), d -> d.layValue(0, 0, 0), d -> d.layProduct(6, 0),
            d -> d.layShare(12, 0), d -> d.layKernel(0, 1001, 0), d -> d.layLeft(0, 0)};
        for (Call call : refused) {
            due(call.on(desk) < 0 ? 1 : 0, 1);
            due(desk.sign(), 2);
            due(desk.against(-1, 3), 0);
        }
    }

    // ---- 20 bits

    /** "upper (what = 0), lower number (1)"; "OUTSIDE" */
    static void bitsWhatIs0Or1() {
        MomentDesk desk = THIRD.desk();
        due(desk.bits(0), 1);
        due(desk.bits(1), 2);
        int[] outside = {-1, 2, LOWEST, HIGHEST};
        for (int what : outside) {
            refuses(THIRD, OUTSIDE, d -> d.bits(what));
            refusesOnNew(nothing(), OUTSIDE, d -> d.bits(what));
        }
    }

    /** "Bits of its upper .. number": 0 has none, and a power of 2 has one more than the number before it. */
    static void bitsOfTheUpperNumber() {
        MomentDesk desk = new MomentDesk();
        due(desk.bits(0), 0);
        due(desk.bits(1), 1);
        for (int bits = 1; bits <= 19; bits++) {
            desk.moment(0, 1 << bits);
            desk.layMoment(0);
            due(desk.bits(0), bits + 1);
            due(desk.bits(1), 1);
            desk.moment(0, (1 << bits) - 1);
            desk.layMoment(0);
            due(desk.bits(0), bits);
        }
    }

    /** ".. lower number (1)": in lowest terms. */
    static void bitsOfTheLowerNumber() {
        for (int bits = 1; bits <= 19; bits++) {
            MomentDesk desk = told(1 << bits, 1).desk();
            due(desk.layRule(0, 0), 1);
            due(desk.bits(0), 1);
            due(desk.bits(1), bits + 1);
            desk.moment(1, 1 << bits);
            due(desk.layRule(0, 0), 1);
            due(desk.bits(1), 1);
            desk.moment(1, 0);
            due(desk.layRule(0, 0), 0);
            due(desk.bits(0), 0);
            due(desk.bits(1), 1);
        }
    }

    /** "without the sign": -(2 to the 16) has 17 bits, as 2 to the 16 has. */
    static void bitsWithoutTheSign() {
        int[] sizes = {1, 2, 32767, 32768, 65535, 65536, MILLION};
        for (int size : sizes) {
            MomentDesk desk = told(size, -size).desk();
            desk.layMoment(0);
            int bits = desk.bits(0);
            due(bits, 32 - Integer.numberOfLeadingZeros(size));
            desk.layMoment(1);
            due(desk.bits(0), bits);
        }
    }

    /** Numbers of more than 64 bits, at 32 bits and at their edges. */
    static void bitsOfLongNumbers() {
        for (int twos = 1; twos <= 19; twos++) {
            MomentDesk desk = told(0, 0, 0, 0, 0, 1 << twos).desk();
            due(desk.layDeterminant(6), 2);
            due(desk.bits(0), 6 * twos + 1);
            due(desk.bits(1), 1);
        }
    }

    // ---- 21 word

    /** "OUTSIDE: what" */
    static void wordWhatIs0Or1() {
        MomentDesk desk = THIRD.desk();
        due(desk.word(0, 0), 1);
        due(desk.word(1, 0), 3);
        int[] outside = {-1, 2, LOWEST, HIGHEST};
        for (int what : outside) {
            refuses(THIRD, OUTSIDE, d -> d.word(what, 0));
            refuses(THIRD, OUTSIDE, d -> d.word(what, HIGHEST));
        }
    }

    /** "OUTSIDE: .. k is below 0" */
    static void wordFromK0() {
        refuses(THIRD, OUTSIDE, d -> d.word(0, -1));
        refuses(THIRD, OUTSIDE, d -> d.word(1, -1));
        refuses(THIRD, OUTSIDE, d -> d.word(0, LOWEST));
        refusesOnNew(nothing(), OUTSIDE, d -> d.word(0, -1));
    }

    /** "Sixteen bits of it, those from bit 16 k on": bits 15 and 16 are of different words. */
    static void wordHasSixteenBits() {
        MomentDesk desk = told(32768, 65535, 65536, 65537, -MILLION).desk();
        int[][] words = {{32768, 0}, {65535, 0}, {0, 1}, {1, 1}, {16960, 15}};
        for (int k = 0; k < words.length; k++) {
            desk.layMoment(k);
            due(desk.word(0, 0), words[k][0]);
            due(desk.word(0, 1), words[k][1]);
            due(desk.word(0, 2), 0);
            due(desk.word(1, 0), 1);
            due(desk.word(1, 1), 0);
        }
    }

    /** "0 beyond" */
    static void wordBeyondIs0() {
        MomentDesk desk = told(0, 0, 0, 0, 0, 524288).desk();
        due(desk.word(0, 0), 0);
        due(desk.layDeterminant(6), 2);
        // minus 2 to the 114
        due(desk.word(0, 6), 0);
        due(desk.word(0, 7), 4);
        int[] beyond = {8, 9, 63, 64, 1000, 1 << 28, 1 << 30, HIGHEST - 1, HIGHEST};
        for (int k : beyond) {
            due(desk.word(0, k), 0);
            due(desk.word(1, k), 0);
        }
        due(desk.word(1, 0), 1);
    }

    // ---- 22 against

    /** "As -1, 0, 1: THE HAND is below u / v, the same, above." */
    static void againstTheSame() {
        MomentDesk desk = THIRD.desk();
        due(desk.against(-1, 3), 0);
        due(desk.against(-333333, 999999), 0);
        due(desk.against(-333333, MILLION), -1);
        due(desk.against(-333334, MILLION), 1);
        due(desk.against(0, 1), -1);
        due(desk.against(1, 3), -1);
        MomentDesk none = new MomentDesk();
        due(none.against(0, MILLION), 0);
        due(none.against(1, MILLION), -1);
        due(none.against(-1, MILLION), 1);
    }

    /** "OUTSIDE (-20): as in layValue()": u. */
    static void againstUUpToAMillion() {
        MomentDesk desk = told(MILLION, -MILLION).desk();
        due(desk.layMoment(0), 1);
        due(desk.against(MILLION, 1), 0);
        due(desk.against(999999, 1), 1);
        due(desk.layMoment(1), 2);
        due(desk.against(-MILLION, 1), 0);
        due(desk.against(-999999, 1), -1);
        int[] outside = {MILLION + 1, -MILLION - 1, LOWEST, HIGHEST};
        for (int u : outside) {
            refuses(THIRD, -20, d -> d.against(u, 1));
        }
    }

    /** "OUTSIDE (-20): as in layValue()": v. */
    static void againstVFrom1ToAMillion() {
        MomentDesk desk = told(MILLION, 1).desk();
        due(desk.layRule(0, 0), 1);
        due(desk.against(1, MILLION), 0);
        due(desk.against(1, 999999), -1);
        due(desk.against(1, 1), -1);
        for (int[] pair : NO_FRACTIONS) {
            refuses(THIRD, -20, d -> d.against(pair[0], pair[1]));
            refusesOnNew(nothing(), -20, d -> d.against(pair[0], pair[1]));
        }
    }

    /** What is asked for leaves WEIGHTS and THE HAND as they are. */
    static void askingLeavesAll() {
        leavesAll(THIRD, 2, MomentDesk::sign);
        leavesAll(THIRD, 2, d -> d.bits(1));
        leavesAll(THIRD, 3, d -> d.word(1, 0));
        leavesAll(THIRD, 0, d -> d.word(0, HIGHEST));
        leavesAll(THIRD, 0, d -> d.against(-2, 6));
    }
}
