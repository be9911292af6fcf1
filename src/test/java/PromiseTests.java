/** For each promise of the document: ordinary inputs, the edges that it names, and wrong inputs. */
public final class PromiseTests extends Bench {
    public static void main(String[] args) {
        run(PromiseTests.class);
    }

    static void newObject() {
        MomentDesk desk = new MomentDesk();
        state(desk, 0, 11, 0, 0);
        inHand(desk, 0, 1);
        for (int k = 0; k <= 11; k++) {
            laid(desk, desk.layMoment(k), 0, 1);
        }
        due(desk.back(0), -1);
        due(desk.back(1), -1);
    }

    static void clear() {
        MomentDesk desk = list(1, 2, 3, 4).desk();
        desk.layMoment(1);
        due(desk.by(2), 10);
        due(desk.clear(), 10);
        state(desk, 0, 11, 0, 0);
        inHand(desk, 14, 1);
        laid(desk, desk.layMoment(3), 0, 1);
        due(desk.clear(), 11);
        due(desk.point(3, 5), 1);
        laid(desk, desk.layMoment(1), 15, 1);
        shorten(desk, 3);
        due(desk.clear(), 3);
        due(desk.told(4), 0);
        desk.point(3, 5);
        due(desk.told(4), 1);
        due(desk.good(), 1);
        desk.clear();
        due(desk.told(4), 0);
        due(desk.good(), 0);
    }

    static void point() {
        MomentDesk desk = new MomentDesk();
        due(desk.point(-9, -99), 1);
        due(desk.point(9, 99), 2);
        due(desk.point(0, 5), 3);
        laid(desk, desk.layMoment(0), 5, 1);
        laid(desk, desk.layMoment(11), 198 * 31381059609L, 1);
        due(desk.point(0, -5), 2);
        due(desk.point(9, 1), -5);
        due(desk.point(-9, -1), -5);
        due(desk.point(-9, 99), 1);
        due(desk.point(9, -99), 0);
        for (int x = -4; x <= 5; x++) {
            due(desk.point(x, 1), x + 5);
        }
        due(desk.point(6, 1), -4);
        due(desk.point(5, 98), 10);
        due(desk.point(5, 1), -5);
        due(desk.point(5, -99), 9);
        due(desk.point(6, 1), 10);
        int[][] bad = {{-10, 1}, {10, 1}, {0, 0}, {0, 100}, {0, -100}, {LOWEST, 1}, {0, LOWEST}, {HIGHEST, HIGHEST}};
        for (int[] pair : bad) {
            due(desk.point(pair[0], pair[1]), -2);
            due(span(0, 1).desk().point(pair[0], pair[1]), -2);
        }
        due(desk.told(2), 10);
        due(span(0, 1).desk().point(0, 1), -3);
        due(told(1).desk().point(0, 1), -3);
        desk.mirror(0);
        due(desk.point(0, 1), -3);
        desk.clear();
        desk.by(0);
        due(desk.point(0, 1), -3);
        desk.counted(0, 3, 0, 0);
        due(desk.point(0, 1), -3);
    }

    static void moment() {
        MomentDesk desk = new MomentDesk();
        due(desk.moment(0, 1000000), 1);
        due(desk.moment(11, -1000000), 2);
        due(desk.moment(5, 0), 2);
        due(desk.moment(0, 0), 1);
        state(desk, 1, 11, 0, 0);
        laid(desk, desk.layMoment(11), -1000000, 1);
        due(desk.moment(-1, 0), -1);
        due(desk.moment(12, 1000001), -1);
        due(desk.moment(LOWEST, 0), -1);
        due(desk.moment(HIGHEST, 0), -1);
        due(desk.moment(3, 1000001), -2);
        due(desk.moment(3, -1000001), -2);
        due(desk.moment(3, LOWEST), -2);
        laid(desk, desk.layMoment(3), 0, 1);
        due(list(1, 1).desk().moment(0, 1), -3);
        due(list(1, 1).desk().moment(0, LOWEST), -2);
        due(list(1, 1, 1, -1).desk().moment(0, 1), 1);
        due(span(0, 1).desk().moment(0, 1), -3);
        due(span(0, 1).desk().moment(12, 1), -1);
        MomentDesk counted = new MomentDesk();
        counted.counted(0, 1, 0, 0);
        due(counted.moment(0, 1), -3);
        desk.by(0);
        due(desk.moment(0, 1), -3);
        MomentDesk bare = new MomentDesk();
        bare.mirror(1);
        due(bare.moment(0, 1), -3);
        due(new MomentDesk().moment(4, 0), 0);
    }

    static void span() {
        MomentDesk desk = list(1, 1).desk();
        desk.layMoment(0);
        desk.by(0);
        due(desk.span(-9, 9), 1);
        state(desk, 2, 11, 0, 0);
        inHand(desk, 1, 1);
        laid(desk, desk.layMoment(0), 27720 * 18, 1);
        laid(desk, desk.layMoment(10), 2520 * 2 * 31381059609L, 1);
        laid(desk, desk.layMoment(11), 0, 1);
        due(desk.span(-3, 1), 1);
        laid(desk, desk.layMoment(1), 13860 * (1 - 9), 1);
        laid(desk, desk.layMoment(2), 9240 * (1 + 27), 1);
        int[][] bad = {{1, 1}, {2, 1}, {-10, 0}, {0, 10}, {LOWEST, 0}, {0, HIGHEST}, {HIGHEST, LOWEST}};
        for (int[] pair : bad) {
            due(desk.span(pair[0], pair[1]), -2);
        }
        laid(desk, desk.layMoment(0), 27720 * 4, 1);
    }

    static void counted() {
        MomentDesk desk = list(1, 1).desk();
        desk.by(0);
        due(desk.counted(0, 9, LOWEST, HIGHEST), 10);
        state(desk, 3, 11, 0, 0);
        laid(desk, desk.layMoment(0), 10, 1);
        laid(desk, desk.layMoment(2), 285, 1);
        due(desk.counted(0, 1, 0, 0), 2);
        due(desk.counted(1, 6, 3, 2), 7);
        laid(desk, desk.layMoment(0), 15625, 1);
        laid(desk, desk.layMoment(1), 6 * 3 * 3125, 1);
        due(desk.counted(1, 1, 1, 3), 2);
        laid(desk, desk.layMoment(0), 4, 1);
        laid(desk, desk.layMoment(5), 1, 1);
        due(desk.counted(2, 3, 2, 9), 3);
        laid(desk, desk.layMoment(0), 165, 1);
        laid(desk, desk.layMoment(1), 2 * 45, 1);
        due(desk.counted(2, 6, 1, 5), 1);
        due(desk.counted(2, 1, 1, 1), 2);
        due(desk.counted(2, 6, 9, 9), 7);
        int[][] bad = {{-1, 1, 1, 1}, {3, 1, 1, 1}, {0, 0, 1, 1}, {0, 10, 1, 1}, {1, 0, 1, 1}, {1, 7, 1, 1}, {1, 6, 0, 1},
            {1, 6, 4, 1}, {1, 6, 1, 0}, {1, 6, 1, 4}, {2, 0, 1, 1}, {2, 7, 9, 9}, {2, 1, 0, 9}, {2, 1, 10, 9}, {2, 1, 9, 0},
            {2, 1, 9, 10}, {2, 6, 1, 4}, {2, 6, HIGHEST, HIGHEST}, {LOWEST, LOWEST, LOWEST, LOWEST}};
        for (int[] four : bad) {
            due(desk.counted(four[0], four[1], four[2], four[3]), -2);
        }
        laid(desk, desk.layMoment(0), 18564, 1);
    }

    static void by() {
        MomentDesk desk = list(2, 3, -1, 4).desk();
        desk.layMoment(0);
        due(desk.by(1), 10);
        inHand(desk, 7, 1);
        laid(desk, desk.layMoment(0), 3 - 8, 1);
        laid(desk, desk.layMoment(1), 6 + 8, 1);
        laid(desk, desk.layMoment(10), 3 * 1024 - 8, 1);
        due(desk.layMoment(11), -1);
        due(desk.told(3), 1);
        due(desk.told(0), 0);
        for (int last = 9; last >= 3; last--) {
            due(desk.by(last == 5 ? -9 : 9), last);
        }
        due(desk.by(0), -3);
        due(desk.by(10), -2);
        due(desk.by(LOWEST), -2);
        due(desk.by(HIGHEST), -2);
        due(desk.by(-10), -2);
        due(desk.told(1), 3);
        // a point at -32: moment 10 becomes 41 times 32 to the 10 times the weight
        MomentDesk fits = movedDown(99).desk();
        due(fits.by(9), 10);
        laid(fits, fits.layMoment(10), -41L * 99 << 50, 1);
        MomentDesk full = movedDown(100).desk();
        due(full.by(9), -4);
        state(full, 1, 11, 0, 1);
        laid(full, full.layMoment(1), -3200, 1);
        due(full.by(10), -2);
        due(movedDown(1).shortened(3).desk().by(9), -3);
    }

    static void mirror() {
        MomentDesk desk = list(2, 3, -1, 4).desk();
        desk.layMoment(0);
        due(desk.mirror(5), 1);
        inHand(desk, 7, 1);
        due(desk.told(0), 0);
        due(desk.told(1), 11);
        due(desk.told(3), 1);
        laid(desk, desk.layMoment(0), 7, 1);
        laid(desk, desk.layMoment(1), 9 + 24, 1);
        laid(desk, desk.layMoment(11), 3 * 177147 + 4 * 362797056L, 1);
        due(desk.mirror(5), 1);
        laid(desk, desk.layMoment(3), 24 - 4, 1);
        due(desk.mirror(0), 1);
        laid(desk, desk.layMoment(3), 4 - 24, 1);
        due(desk.mirror(-9), 1);
        laid(desk, desk.layMoment(1), -3 * 7 - 4 * 10, 1);
        int[] bad = {-10, 10, LOWEST, HIGHEST};
        for (int c : bad) {
            due(desk.mirror(c), -2);
        }
        // 127 times 2 to the 55 is below 2 to the 62, 128 times is not
        MomentDesk fits = movedDown(127).desk();
        laid(fits, fits.layMoment(11), -127L << 55, 1);
        MomentDesk full = told(128).desk();
        full.mirror(8);
        full.mirror(-8);
        full.mirror(8);
        due(full.mirror(-8), -4);
        laid(full, full.layMoment(1), 24 * 128, 1);
        MomentDesk below = told(-128).desk();
        below.mirror(8);
        below.mirror(-8);
        below.mirror(8);
        due(below.mirror(-8), -4);
        due(below.by(0), 10);
        due(below.mirror(-8), 1);
    }

    static void layMoment() {
        MomentDesk desk = told(4, -6).desk();
        laid(desk, desk.layMoment(0), 4, 1);
        laid(desk, desk.layMoment(1), -6, 1);
        laid(desk, desk.layMoment(11), 0, 1);
        desk.layMoment(1);
        int[] bad = {-1, 12, LOWEST, HIGHEST};
        for (int k : bad) {
            due(desk.layMoment(k), -1);
        }
        inHand(desk, -6, 1);
        desk.by(0);
        due(desk.layMoment(11), -1);
        laid(desk, desk.layMoment(10), 0, 1);
    }

    static void layWorth() {
        MomentDesk desk = span(-1, 1).desk();
        laid(desk, desk.layWorth(0), 55440, 1);
        laid(desk, desk.layWorth(1), 18480, 1);
        laid(desk, desk.layWorth(2), 4928, 1);
        laid(desk, desk.layWorth(3), 6336, 5);
        laid(desk, desk.layWorth(4), 11264, 35);
        due(desk.layWorth(5), 1);
        due(desk.layWorth(6), -1);
        due(desk.layWorth(-1), -1);
        due(desk.layWorth(LOWEST), -1);
        due(desk.layWorth(HIGHEST), -1);
        MomentDesk two = list(0, 1, 3, 2).desk();
        laid(two, two.layWorth(1), 6, 1);
        laid(two, two.layWorth(2), 0, 1);
        due(two.layWorth(3), -1);
        inHand(two, 0, 1);
        MomentDesk fewer = span(0, 1).shortened(9).desk();
        due(fewer.told(4), 5);
        due(fewer.layWorth(5), -1);
        due(fewer.layWorth(4), 1);
        due(span(0, 1).shortened(8).desk().layWorth(4), 2);
        due(span(0, 1).shortened(7).desk().layWorth(4), -1);
        due(span(0, 1).shortened(7).desk().layWorth(3), 1);
    }

    static void layDeterminant() {
        MomentDesk desk = told(0, 1, 0, 0, 5).desk();
        laid(desk, desk.layDeterminant(0), 1, 1);
        laid(desk, desk.layDeterminant(1), 0, 1);
        laid(desk, desk.layDeterminant(2), -1, 1);
        laid(desk, desk.layDeterminant(3), -5, 1);
        laid(desk, desk.layDeterminant(6), 0, 1);
        due(desk.told(4), 0);
        int[] bad = {-1, 7, LOWEST, HIGHEST};
        for (int k : bad) {
            due(desk.layDeterminant(k), -1);
        }
        MomentDesk six = told(0, 0, 0, 0, 0, 2).desk();
        laid(six, six.layDeterminant(6), -64, 1);
        due(told(1, 2, 3, 4).shortened(10).desk().layDeterminant(6), 0);
        MomentDesk fewer = told(1, 2, 3, 4).shortened(9).desk();
        due(fewer.layDeterminant(6), -1);
        due(fewer.layDeterminant(5), 0);
        shorten(fewer, 3);
        due(fewer.layDeterminant(3), -1);
        due(fewer.layDeterminant(2), 2);
    }

    static void layNumber() {
        MomentDesk desk = span(-1, 1).desk();
        laid(desk, desk.layNumber(0, 0), 1, 1);
        laid(desk, desk.layNumber(5, 5), 1, 1);
        laid(desk, desk.layNumber(5, 4), 0, 1);
        laid(desk, desk.layNumber(5, 3), -10, 9);
        laid(desk, desk.layNumber(5, 1), 5, 21);
        laid(desk, desk.layNumber(4, 0), 3, 35);
        laid(desk, desk.layNumber(4, 2), -6, 7);
        laid(desk, desk.layNumber(4, 5), 0, 1);
        laid(desk, desk.layNumber(4, HIGHEST), 0, 1);
        laid(desk, desk.layNumber(2, 0), -1, 3);
        int[][] bad = {{-1, 0}, {6, 0}, {0, -1}, {LOWEST, 0}, {HIGHEST, 0}, {2, LOWEST}};
        for (int[] pair : bad) {
            due(desk.layNumber(pair[0], pair[1]), -1);
        }
        inHand(desk, -1, 3);
        MomentDesk none = new MomentDesk();
        laid(none, none.layNumber(0, 0), 1, 1);
        due(none.layNumber(1, 0), -1);
        MomentDesk below = list(0, -3, 2, -1, 5, -2).desk();
        laid(below, below.layNumber(1, 0), -2, 1);
        laid(below, below.layNumber(3, 2), -7, 1);
        laid(below, below.layNumber(3, 1), 10, 1);
        laid(below, below.layNumber(3, 0), 0, 1);
    }

    static void layRule() {
        MomentDesk desk = span(0, 1).desk();
        for (int k = 0; k <= 4; k++) {
            laid(desk, desk.layRule(k, 0), 1, 2);
        }
        laid(desk, desk.layRule(0, 1), 27720, 1);
        laid(desk, desk.layRule(1, 1), 1, 12);
        laid(desk, desk.layRule(2, 1), 1, 15);
        laid(desk, desk.layRule(4, 1), 4, 63);
        int[] bad = {-1, 5, LOWEST, HIGHEST};
        for (int k : bad) {
            due(desk.layRule(k, 0), -1);
            due(desk.layRule(k, 2), -1);
        }
        due(desk.layRule(4, 2), -2);
        due(desk.layRule(0, -1), -2);
        due(desk.layRule(0, LOWEST), -2);
        inHand(desk, 4, 63);
        MomentDesk coins = new MomentDesk();
        coins.counted(1, 4, 1, 1);
        laid(coins, coins.layRule(2, 1), 3, 2);
        laid(coins, coins.layRule(4, 1), 1, 1);
        laid(coins, coins.layRule(4, 0), 2, 1);
        MomentDesk two = list(-4, 1, 1, 2).desk();
        laid(two, two.layRule(0, 0), -2, 3);
        laid(two, two.layRule(1, 0), -7, 3);
        laid(two, two.layRule(1, 1), 50, 9);
        due(two.layRule(2, 0), -1);
    }

    static void layValue() {
        MomentDesk desk = span(-1, 1).desk();
        laid(desk, desk.layValue(3, 1, 2), -7, 40);
        laid(desk, desk.layValue(3, -2, 4), 7, 40);
        laid(desk, desk.layValue(0, 1000000, 1000000), 1, 1);
        laid(desk, desk.layValue(1, -1000000, 1), -1000000, 1);
        laid(desk, desk.layValue(2, 1, 1000000), 3 - 1000000000000L, 3000000000000L);
        laid(desk, desk.layValue(4, 0, 7), 3, 35);
        laid(desk, desk.layValue(5, 0, 1), 0, 1);
        int[][] bad = {{1000001, 1}, {-1000001, 1}, {0, 0}, {0, -1}, {0, 1000001}, {LOWEST, 1}, {1, LOWEST}, {HIGHEST, HIGHEST}};
        for (int[] pair : bad) {
            due(desk.layValue(5, pair[0], pair[1]), -2);
            due(desk.layValue(6, pair[0], pair[1]), -1);
        }
        due(desk.layValue(-1, 0, 1), -1);
        due(desk.layValue(HIGHEST, 0, 1), -1);
        inHand(desk, 0, 1);
    }

    static void layProduct() {
        MomentDesk desk = span(-1, 1).desk();
        for (int i = 0; i <= 5; i++) {
            for (int j = 0; j <= 5; j++) {
                due(desk.layProduct(i, j), i == j ? 1 : 0);
            }
        }
        laid(desk, desk.layProduct(2, 2), 4928, 1);
        laid(desk, desk.layProduct(2, 4), 0, 1);
        int[][] bad = {{-1, 0}, {0, -1}, {6, 0}, {0, 6}, {HIGHEST, HIGHEST}, {LOWEST, LOWEST}, {HIGHEST, 1}};
        for (int[] pair : bad) {
            due(desk.layProduct(pair[0], pair[1]), -1);
        }
        MomentDesk fewer = span(0, 1).shortened(9).desk();
        due(fewer.layProduct(5, 5), -1);
        laid(fewer, fewer.layProduct(5, 4), 0, 1);
        MomentDesk below = told(-4, 0, 3).desk();
        laid(below, below.layProduct(0, 0), -4, 1);
        laid(below, below.layProduct(2, 2), 9, 4);
    }

    static void layShare() {
        MomentDesk desk = span(-1, 1).desk();
        laid(desk, desk.layShare(4, 2), 6, 7);
        laid(desk, desk.layShare(4, 0), 1, 5);
        laid(desk, desk.layShare(11, 0), 0, 1);
        laid(desk, desk.layShare(5, 5), 1, 1);
        laid(desk, desk.layShare(0, 3), 0, 1);
        laid(desk, desk.layShare(4, 2), 6, 7);
        int[][] bad = {{12, 0}, {7, 5}, {-1, 0}, {0, -1}, {0, 6}, {HIGHEST, 1}, {HIGHEST, HIGHEST}, {LOWEST, 0}};
        for (int[] pair : bad) {
            due(desk.layShare(pair[0], pair[1]), -1);
        }
        inHand(desk, 6, 7);
        MomentDesk two = list(0, 1, 3, 2).desk();
        due(two.layShare(3, 2), -5);
        due(two.layShare(10, 2), -1);
        due(two.layShare(0, 3), -1);
        laid(two, two.layShare(2, 1), 3, 1);
        MomentDesk fewer = span(0, 1).shortened(9).desk();
        due(fewer.layShare(4, 5), -1);
        laid(fewer, fewer.layShare(4, 4), 1, 1);
        MomentDesk below = told(-2, 1, 0).desk();
        laid(below, below.layShare(1, 0), -1, 2);
    }

    static void layKernel() {
        MomentDesk desk = span(-1, 1).desk();
        laid(desk, desk.layKernel(0, 1000, -1000), 1, 55440);
        laid(desk, desk.layKernel(1, 2, 3), 19, 55440);
        laid(desk, desk.layKernel(2, 0, 0), 1, 24640);
        laid(desk, desk.layKernel(5, 1, 1), 1, 1540);
        laid(desk, desk.layKernel(5, 1, -1), -1, 9240);
        int[][] bad = {{1001, 0}, {0, 1001}, {-1001, 0}, {0, -1001}, {LOWEST, HIGHEST}};
        for (int[] pair : bad) {
            due(desk.layKernel(5, pair[0], pair[1]), -2);
            due(desk.layKernel(6, pair[0], pair[1]), -1);
        }
        due(desk.layKernel(-1, 0, 0), -1);
        due(desk.layKernel(HIGHEST, 0, 0), -1);
        due(desk.layKernel(LOWEST, 0, 0), -1);
        MomentDesk two = list(0, 1, 3, 2).desk();
        laid(two, two.layKernel(1, 3, 3), 1, 2);
        laid(two, two.layKernel(1, 0, 3), 0, 1);
        laid(two, two.layKernel(1, 0, 0), 1, 1);
        due(two.layKernel(2, 0, 0), -5);
        due(two.layKernel(2, 1001, 0), -2);
        due(two.layKernel(3, 0, 0), -1);
        due(new MomentDesk().layKernel(0, 0, 0), -5);
        due(span(0, 1).shortened(9).desk().layKernel(5, 0, 0), -1);
        MomentDesk below = told(-2, 0, 4).desk();
        laid(below, below.layKernel(1, 1, 2), 0, 1);
        laid(below, below.layKernel(1, 1, 1), -1, 4);
    }

    static void layLeft() {
        MomentDesk desk = span(0, 1).desk();
        laid(desk, desk.layLeft(1, 0), 0, 1);
        laid(desk, desk.layLeft(1, 1), 0, 1);
        laid(desk, desk.layLeft(1, 2), 2310, 1);
        laid(desk, desk.layLeft(1, 3), 3465, 1);
        laid(desk, desk.layLeft(1, 11), 2310 * 256 - 3465, 256);
        laid(desk, desk.layLeft(5, 9), 0, 1);
        laid(desk, desk.layLeft(2, 4), 154, 1);
        int[][] bad = {{0, 0}, {-1, 0}, {6, 0}, {1, -1}, {1, 12}, {HIGHEST, 1}, {LOWEST, 1}, {1, LOWEST}, {1, HIGHEST}};
        for (int[] pair : bad) {
            due(desk.layLeft(pair[0], pair[1]), -1);
        }
        inHand(desk, 154, 1);
        MomentDesk wide = span(-1, 1).desk();
        laid(wide, wide.layLeft(2, 4), 4928, 1);
        laid(wide, wide.layLeft(2, 6), 17600, 3);
        due(wide.layLeft(5, 11), 0);
        due(wide.layLeft(5, 10), 1);
        MomentDesk fewer = span(0, 1).shortened(9).desk();
        due(fewer.layLeft(5, 10), -1);
        due(fewer.layLeft(5, 9), 0);
        MomentDesk below = told(1, 0, -4).desk();
        laid(below, below.layLeft(1, 2), -4, 1);
    }

    static void sign() {
        MomentDesk desk = told(3, -2, 0).desk();
        due(desk.sign(), 0);
        desk.layMoment(0);
        due(desk.sign(), 1);
        desk.layMoment(1);
        due(desk.sign(), 2);
        desk.layMoment(12);
        due(desk.sign(), 2);
        desk.layRule(0, 0);
        due(desk.sign(), 2);
        desk.layMoment(2);
        due(desk.sign(), 0);
        MomentDesk below = told(-3, 2).desk();
        due(below.layRule(0, 0), 2);
        due(below.sign(), 2);
    }

    static void bits() {
        MomentDesk desk = told(-65536, 65535, 3).desk();
        due(desk.bits(0), 0);
        due(desk.bits(1), 1);
        desk.layMoment(0);
        due(desk.bits(0), 17);
        desk.layMoment(1);
        due(desk.bits(0), 16);
        desk.layRule(0, 0);
        due(desk.bits(0), 16);
        due(desk.bits(1), 17);
        int[] bad = {-1, 2, LOWEST, HIGHEST};
        for (int what : bad) {
            due(desk.bits(what), -2);
        }
        MomentDesk long6 = told(0, 0, 0, 0, 0, 524288).desk();
        due(long6.layDeterminant(6), 2);
        due(long6.bits(0), 19 * 6 + 1);
        due(long6.bits(1), 1);
    }

    static void word() {
        MomentDesk desk = told(-1000000, 1, 0, 0, 0, 524288).desk();
        desk.layMoment(0);
        due(desk.word(0, 0), 1000000 & 65535);
        due(desk.word(0, 1), 15);
        due(desk.word(0, 2), 0);
        due(desk.word(0, HIGHEST), 0);
        due(desk.word(1, 0), 1);
        due(desk.word(1, 1), 0);
        desk.layRule(0, 0);
        due(desk.word(1, 1), 15);
        due(desk.word(0, 0), 1);
        int[][] bad = {{-1, 0}, {2, 0}, {0, -1}, {1, LOWEST}, {LOWEST, LOWEST}, {HIGHEST, 0}};
        for (int[] pair : bad) {
            due(desk.word(pair[0], pair[1]), -2);
        }
        MomentDesk long6 = told(0, 0, 0, 0, 0, 524288).desk();
        long6.layDeterminant(6);
        for (int k = 0; k < 20; k++) {
            due(long6.word(0, k), k == 7 ? 4 : 0);
        }
    }

    static void against() {
        MomentDesk desk = span(-1, 1).desk();
        due(desk.against(0, 1000000), 0);
        due(desk.against(1, 1000000), -1);
        due(desk.against(-1, 1000000), 1);
        desk.layNumber(2, 0);
        due(desk.against(-1, 3), 0);
        due(desk.against(-333333, 999999), 0);
        due(desk.against(-333334, 1000000), 1);
        due(desk.against(-333333, 1000000), -1);
        due(desk.against(0, 1), -1);
        desk.layMoment(0);
        due(desk.against(55440, 1), 0);
        due(desk.against(1000000, 1), -1);
        due(desk.against(-1000000, 1), 1);
        int[][] bad = {{1000001, 1}, {-1000001, 1}, {0, 0}, {0, -1}, {0, 1000001}, {LOWEST, 1}, {1, LOWEST}};
        for (int[] pair : bad) {
            due(desk.against(pair[0], pair[1]), -20);
        }
        MomentDesk below = told(-3, 2).desk();
        below.layRule(0, 0);
        due(below.against(-2, 3), 0);
        due(below.against(2, 3), -1);
        due(below.against(-1, 1), 1);
    }

    static void below() {
        MomentDesk desk = list(-3, 1, 0, 2, 4, 5, 9, 1).desk();
        int[] points = {-3, 0, 4, 9};
        for (int i = 0; i < 4; i++) {
            due(desk.below(4, points[i], 1), i);
            due(desk.below(4, points[i] * 1000 + 1, 1000), i + 1);
        }
        due(desk.below(4, 1000000, 1), 4);
        due(desk.below(4, -1000000, 1), 0);
        due(desk.below(0, 5, 1), 0);
        MomentDesk even = span(-1, 1).desk();
        due(even.below(3, 0, 1), 1);
        due(even.below(5, 0, 7), 2);
        due(even.below(4, 0, 7), 2);
        due(even.below(5, 1, 1000000), 3);
        int[][] bad = {{1000001, 1}, {-1000001, 1}, {0, 0}, {0, -1}, {0, 1000001}, {LOWEST, 1}, {1, HIGHEST}};
        for (int[] pair : bad) {
            due(desk.below(4, pair[0], pair[1]), -2);
            due(desk.below(5, pair[0], pair[1]), -1);
            due(told(2, 0, -1).desk().below(2, pair[0], pair[1]), -2);
        }
        due(desk.below(-1, 0, 1), -1);
        due(desk.below(HIGHEST, 0, 1), -1);
        MomentDesk signed = told(2, 0, -1).desk();
        due(signed.below(1, 1, 1), 1);
        due(signed.below(2, 0, 1), -5);
        due(told(-2, 1).desk().below(1, 0, 1), -5);
        due(told(-2, 1).desk().below(0, 0, 1), 0);
    }

    static void shut() {
        MomentDesk desk = list(-3, 1, 0, 2, 4, 5, 9, 1).desk();
        int[] points = {-3, 0, 4, 9};
        for (int i = 0; i < 4; i++) {
            due(desk.shut(4, i, 0), points[i]);
            due(desk.shut(4, i, 10), points[i] * 1024);
        }
        MomentDesk third = told(3, -1).desk();
        due(third.shut(1, 0, 0), -1);
        due(third.shut(1, 0, 1), -1);
        due(third.shut(1, 0, 2), -2);
        due(third.shut(1, 0, 10), -342);
        int[][] ends = {{1, 512, -2000001, -2000001}, {1, 511, 511, 511 * 1024}, {1, -512, -512, -512 * 1024},
            {1, -513, -2000001, -2000001}, {2, 1023, 511, 511 * 1024 + 512}, {2, -1025, -2000001, -2000001},
            {1950, 998399, 511, 512 * 1024 - 1}, {1, 1000000, -2000001, -2000001}};
        for (int[] end : ends) {
            due(told(end[0], end[1]).desk().shut(1, 0, 0), end[2]);
            due(told(end[0], end[1]).desk().shut(1, 0, 10), end[3]);
        }
        // x (x - 600) - 1 / 2
        MomentDesk far = told(2, 0, 1, 600).desk();
        due(far.shut(2, 0, 0), -1);
        due(far.shut(2, 1, 0), -2000001);
        int[][] unknown = {{5, 0, 0}, {4, 4, 0}, {4, -1, 0}, {-1, 0, 0}, {0, 0, 0}, {HIGHEST, HIGHEST, 0}, {4, 4, 11}, {4, LOWEST, -1}};
        for (int[] three : unknown) {
            due(desk.shut(three[0], three[1], three[2]), -3000001);
        }
        int[] outside = {-1, 11, LOWEST, HIGHEST};
        for (int d : outside) {
            due(desk.shut(4, 0, d), -3000002);
            due(told(2, 0, -1).desk().shut(2, 0, d), -3000002);
        }
        due(told(2, 0, -1).desk().shut(2, 1, 0), -3000005);
        due(told(2, 0, -1).desk().shut(2, 2, 0), -3000001);
        due(told(2, 0, -1).desk().shut(1, 0, 0), 0);
        due(told(-2, 1).desk().shut(1, 0, 0), -3000005);
    }

    static void good() {
        due(new MomentDesk().good(), 0);
        due(list(1, -1).desk().good(), 0);
        due(list(1, 1).desk().good(), 1);
        due(span(0, 1).desk().good(), 6);
        due(list(-2, 1, -1, 1, 0, 1, 1, 1, 2, 1).desk().good(), 5);
        due(list(-2, 1, -1, 1, 0, 1, 1, 1, 2, 1, 3, 1).desk().good(), 6);
        due(list(-2, 1, -1, 1, 0, 1, 1, 1, 2, 1, 3, 1, 4, 1).desk().good(), 6);
        due(told(2, 0, -1, 0, 9).desk().good(), 1);
        MomentDesk fewer = span(0, 1).desk();
        for (int last = 10; last >= 3; last--) {
            fewer.by(-1);
            due(fewer.told(1), last);
            due(fewer.good(), last / 2 + 1);
        }
    }

    static void few() {
        due(new MomentDesk().few(), 0);
        due(list(4, 7).desk().few(), 1);
        due(list(-2, 1, -1, 1, 0, 1, 1, 1, 2, 1).desk().few(), 5);
        due(list(-2, 1, -1, 1, 0, 1, 1, 1, 2, 1, 3, 1).desk().few(), -6);
        due(span(0, 1).desk().few(), -6);
        due(list(4, -7).desk().few(), -6);
        due(list(1, 1, 2, 1, 3, -1).desk().few(), -6);
        due(told(0, 0, 0, 0, 0, 0, 0, 0, 0, 0, 0, 1).desk().few(), -6);
        due(told(1, 1, 1, 1, 1, 1, 1, 1, 1, 1, 1, 1).desk().few(), 1);
        due(told(1, 1, 1, 1, 1, 1, 1, 1, 1, 1, 1, 2).desk().few(), -6);
        MomentDesk cut = told(1, 1, 1, 1, 1, 1, 1, 1, 1, 1, 1, 2).desk();
        cut.by(0);
        cut.by(0);
        due(cut.few(), -6);
        MomentDesk two = list(3, 1, 5, 1).desk();
        while (two.told(1) > 3) {
            two.by(0);
        }
        due(two.few(), -6);
        due(two.good(), 2);
        MomentDesk one = list(3, 1).desk();
        while (one.told(1) > 3) {
            one.by(0);
        }
        due(one.few(), 1);
    }

    static void told() {
        MomentDesk desk = list(1, 1, 2, 2).desk();
        state(desk, 0, 11, 2, 0);
        due(desk.told(4), 2);
        desk.by(1);
        due(desk.told(0), 0);
        due(desk.told(1), 10);
        due(desk.told(3), 1);
        due(desk.told(4), 1);
        desk.counted(0, 9, 0, 0);
        state(desk, 3, 11, 0, 0);
        due(desk.told(4), 5);
        desk.span(1, 2);
        state(desk, 2, 11, 0, 0);
        int[] tops = {2, 2, 3, 3, 4, 4, 5, 5, 5};
        for (int last = 10; last >= 3; last--) {
            desk.by(0);
            due(desk.told(4), tops[last - 3]);
        }
        state(told(1, 2).desk(), 1, 11, 0, 0);
        due(told(1, 2).desk().told(4), 2);
        due(told(0, 2).desk().told(4), 0);
        int[] bad = {-1, 5, LOWEST, HIGHEST};
        for (int what : bad) {
            due(desk.told(what), -2);
        }
    }

    static void keep() {
        MomentDesk desk = list(1, 1, 2, 2).desk();
        due(desk.keep(0), 1);
        desk.point(5, 5);
        due(desk.keep(1), 1);
        int[] bad = {-1, 2, LOWEST, HIGHEST};
        for (int place : bad) {
            due(desk.keep(place), -1);
        }
        state(desk, 0, 11, 3, 0);
        desk.clear();
        due(desk.back(0), 11);
        due(desk.told(2), 2);
        due(desk.back(1), 11);
        due(desk.told(2), 3);
        desk.by(0);
        due(desk.keep(1), 1);
        desk.span(0, 1);
        due(desk.back(1), 10);
        due(desk.told(3), 1);
    }

    static void back() {
        MomentDesk desk = list(1, 1, 2, 98).desk();
        due(desk.back(0), -1);
        desk.keep(0);
        desk.point(2, -98);
        desk.layMoment(0);
        due(desk.back(0), 11);
        inHand(desk, 1, 1);
        laid(desk, desk.layMoment(0), 99, 1);
        due(desk.point(2, 2), -5);
        due(desk.point(2, 1), 2);
        due(desk.back(0), 11);
        due(desk.point(2, 1), 2);
        due(desk.back(1), -1);
        int[] bad = {-1, 2, LOWEST, HIGHEST};
        for (int place : bad) {
            due(desk.back(place), -1);
        }
        desk.span(-1, 1);
        desk.by(0);
        desk.by(0);
        desk.keep(1);
        desk.clear();
        due(desk.back(1), 9);
        due(desk.told(0), 2);
        due(desk.told(3), 1);
        laid(desk, desk.layMoment(0), 18480, 1);
        due(desk.layMoment(10), -1);
    }

    static void differs() {
        MomentDesk desk = list(1, 1, 3, 1, 5, 1).desk();
        due(desk.differs(0), -1);
        desk.keep(0);
        due(desk.differs(0), -6);
        due(desk.differs(1), -1);
        int[] bad = {-1, 2, LOWEST, HIGHEST};
        for (int place : bad) {
            due(desk.differs(place), -1);
        }
        desk.point(1, 1);
        desk.point(3, 1);
        desk.point(5, 1);
        due(desk.differs(0), -6);
        desk.point(3, 1);
        due(desk.differs(0), 2);
        desk.point(1, 1);
        due(desk.differs(0), 1);
        desk.clear();
        due(desk.differs(0), 1);
        desk.keep(1);
        desk.back(0);
        due(desk.differs(1), 1);
        due(desk.differs(0), -6);
        desk.point(7, 1);
        desk.point(1, -1);
        desk.point(9, 1);
        desk.keep(0);
        desk.span(-1, 1);
        desk.keep(0);
        desk.by(9);
        due(desk.differs(0), 1);
        MomentDesk told = told(2, 0, 1, 0, 1).desk();
        told.keep(1);
        told.moment(9, 1);
        due(told.differs(1), 5);
        told.moment(9, 0);
        told.moment(10, 7);
        due(told.differs(1), -6);
        MomentDesk tops = span(-1, 1).desk();
        tops.keep(0);
        tops.counted(0, 2, 0, 0);
        tops.mirror(1);
        due(tops.differs(0), 2);
        MomentDesk lone = told(2, 0, 0).desk();
        lone.keep(0);
        lone.moment(2, 1);
        due(lone.differs(0), 2);
    }
}
