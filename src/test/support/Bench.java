import java.lang.reflect.InvocationTargetException;
import java.lang.reflect.Method;
import java.lang.reflect.Modifier;
import java.util.TreeMap;

/** What the tests share: desks made ready by calls, answers that are due, and a look at all that a desk can tell. */
abstract class Bench {
    static final int LOWEST = Integer.MIN_VALUE, HIGHEST = Integer.MAX_VALUE;
    static final int UNKNOWN = -1, OUTSIDE = -2, STATE = -3, FULL = -4, NO = -5, NONE = -6;
    /** LAST at first. */
    static final int LAST = 11;
    /** What later calls on a desk answer is free. */
    static final int MOST_CALLS = 512;
    static final int MILLION = 1000000;
    /** u, v that are not as told in layValue(). */
    static final int[][] NO_FRACTIONS = {{MILLION + 1, 1}, {-MILLION - 1, 1}, {1, 0}, {0, 0}, {1, -1}, {1, MILLION + 1},
        {LOWEST, 1}, {HIGHEST, 1}, {1, LOWEST}, {1, HIGHEST}, {LOWEST, LOWEST}};

    private static String test = "";
    private static int row = 0;
    private static int wrong = 0;

    interface Call {
        int on(MomentDesk desk);
    }

    /** Calls that make a desk ready; what they answer is of no matter. */
    interface Setup {
        void on(MomentDesk desk);

        default Setup then(Call call) {
            return desk -> {
                on(desk);
                call.on(desk);
            };
        }

        default Setup shortened(int last) {
            return desk -> {
                on(desk);
                shorten(desk, last);
            };
        }

        default MomentDesk desk() {
            MomentDesk desk = new MomentDesk();
            on(desk);
            return desk;
        }
    }

    /** Each static method of the class without parameters is a test; its name tells which. */
    static void run(Class<?> tests) {
        TreeMap<String, Method> found = new TreeMap<>();
        for (Method method : tests.getDeclaredMethods()) {
            if (Modifier.isStatic(method.getModifiers()) && method.getParameterCount() == 0 && !method.isSynthetic()) {
                found.put(method.getName(), method);
            }
        }
        for (Method method : found.values()) {
            runOne(method);
        }
        System.out.println(found.size() + " tests: " + (wrong == 0 ? "all answers are as due" : wrong + " answers are not as due"));
        if (wrong != 0 || found.isEmpty()) {
            System.exit(1);
        }
    }

    private static void runOne(Method method) {
        test = method.getName();
        row = 0;
        try {
            method.setAccessible(true);
            method.invoke(null);
        } catch (InvocationTargetException thrown) {
            fail("threw " + thrown.getCause());
        } catch (IllegalAccessException shut) {
            fail("can't be run: " + shut);
        }
    }

    static void fail(String what) {
        wrong++;
        System.out.println(test + ", row " + row + ": " + what);
    }

    static void due(long got, long want) {
        row++;
        if (got != want) {
            fail("answered " + got + ", due is " + want);
        }
    }

    /** The call is refused with this answer, and its desk can't be told from one that was never called so. */
    static void refuses(Setup setup, int want, Call call) {
        leavesAllOn(laden(), setup, want, call);
    }

    /** As refuses(), with nothing in the hand and nothing kept. */
    static void refusesOnNew(Setup setup, int want, Call call) {
        leavesAllOn(nothing(), setup, want, call);
    }

    /** As refuses(), for a call that is not refused but changes nothing either. */
    static void leavesAll(Setup setup, int want, Call call) {
        leavesAllOn(laden(), setup, want, call);
    }

    private static void leavesAllOn(Setup before, Setup setup, int want, Call call) {
        MomentDesk desk = before.desk();
        MomentDesk twin = before.desk();
        setup.on(desk);
        setup.on(twin);
        due(call.on(desk), want);
        String seen = look(desk);
        String asBefore = look(twin);
        if (!seen.equals(asBefore)) {
            fail("the call has changed something:\n" + asBefore + "\nbecame\n" + seen);
        }
    }

    /** A fraction in the hand and other weights at both places, so that a change of them would be seen. */
    private static Setup laden() {
        return desk -> {
            desk.counted(1, 3, 2, 1);
            desk.by(4);
            desk.keep(1);
            desk.span(-2, 5);
            desk.keep(0);
            desk.layNumber(2, 1);
            desk.clear();
        };
    }

    static Setup nothing() {
        return desk -> { };
    }

    /** Points and their weights, by turns. */
    static Setup list(int... pairs) {
        return desk -> {
            for (int i = 0; i + 1 < pairs.length; i += 2) {
                desk.point(pairs[i], pairs[i + 1]);
            }
        };
    }

    static Setup told(int... moments) {
        return desk -> {
            for (int k = 0; k < moments.length; k++) {
                desk.moment(k, moments[k]);
            }
        };
    }

    static Setup span(int a, int b) {
        return desk -> desk.span(a, b);
    }

    static Setup counted(int which, int n, int u, int v) {
        return desk -> desk.counted(which, n, u, v);
    }

    /** As many points, from x on, of weight 1. */
    static Setup evenList(int x, int points) {
        return desk -> {
            for (int i = 0; i < points; i++) {
                desk.point(x + i, 1);
            }
        };
    }

    /** By factors x - 9, until no more than these moments are there. */
    static void shorten(MomentDesk desk, int last) {
        for (int k = LAST; k > last && desk.told(1) > last; k--) {
            desk.by(9);
        }
    }

    /** What is told becomes that of x + 32. */
    static Setup movedUp(int... moments) {
        return told(moments).then(desk -> desk.mirror(-8)).then(desk -> desk.mirror(8))
            .then(desk -> desk.mirror(-8)).then(desk -> desk.mirror(8));
    }

    /** What is told becomes that of x - 32. */
    static Setup movedDown(int... moments) {
        return told(moments).then(desk -> desk.mirror(8)).then(desk -> desk.mirror(-8))
            .then(desk -> desk.mirror(8)).then(desk -> desk.mirror(-8));
    }

    /** The answer of what laid the fraction, which is told in lowest terms, and all of the hand. */
    static void laid(MomentDesk desk, int answer, long upper, long lower) {
        due(answer, signAnswer(upper));
        inHand(desk, upper, lower);
    }

    static void inHand(MomentDesk desk, long upper, long lower) {
        due(desk.sign(), signAnswer(upper));
        due(part(desk, 0), Math.abs(upper));
        due(part(desk, 1), lower);
        due(desk.bits(0), 64 - Long.numberOfLeadingZeros(Math.abs(upper)));
        due(desk.bits(1), 64 - Long.numberOfLeadingZeros(lower));
    }

    private static int signAnswer(long upper) {
        return upper < 0 ? 2 : Long.signum(upper);
    }

    private static long part(MomentDesk desk, int what) {
        long value = 0;
        for (int k = 3; k >= 0; k--) {
            value = value << 16 | desk.word(what, k);
        }
        return value;
    }

    /** KIND, LAST, POINTS, CHANGED. */
    static void state(MomentDesk desk, int kind, int last, int points, int changed) {
        due(desk.told(0), kind);
        due(desk.told(1), last);
        due(desk.told(2), points);
        due(desk.told(3), changed);
    }

    /** All that can be seen of the desk, by some 300 calls; the desk is used up by them. */
    private static String look(MomentDesk desk) {
        StringBuilder text = new StringBuilder("hand ");
        appendHand(text, desk);
        appendWeights(text, desk);
        text.append("\ndiffers ").append(desk.differs(0)).append(' ').append(desk.differs(1)).append("\npoints");
        for (int x = -9; x <= 9; x++) {
            text.append(' ').append(desk.point(x, 1));
        }
        for (int place = 0; place < 2; place++) {
            text.append("\nkept ").append(desk.back(place));
            appendWeights(text, desk);
        }
        return text.toString();
    }

    private static void appendWeights(StringBuilder text, MomentDesk desk) {
        text.append("\ntold");
        for (int what = 0; what <= 4; what++) {
            text.append(' ').append(desk.told(what));
        }
        text.append(" good ").append(desk.good()).append(" few ").append(desk.few()).append("\nmoments");
        for (int k = 0; k <= LAST; k++) {
            text.append(' ');
            if (desk.layMoment(k) < 0) {
                text.append("none");
            } else {
                appendHand(text, desk);
            }
        }
    }

    private static void appendHand(StringBuilder text, MomentDesk desk) {
        text.append(desk.sign());
        for (int what = 0; what < 2; what++) {
            text.append(what == 0 ? ":" : "/");
            for (int k = (desk.bits(what) - 1) / 16; k >= 0; k--) {
                text.append(String.format("%04x", desk.word(what, k)));
            }
        }
    }
}
