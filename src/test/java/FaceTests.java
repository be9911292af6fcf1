import java.io.IOException;
import java.lang.management.ManagementFactory;
import java.lang.reflect.Constructor;
import java.lang.reflect.Field;
import java.lang.reflect.Method;
import java.lang.reflect.Modifier;
import java.nio.file.Files;
import java.nio.file.Path;
import java.util.Arrays;
import java.util.List;
import java.util.TreeSet;
import java.util.regex.Matcher;
import java.util.regex.Pattern;

/** The public face, the language rules that can be read off class and text, and what the calls allocate. */
public final class FaceTests {
    private static final String[] FACE = {"clear()", "point(int,int)", "moment(int,int)", "span(int,int)",
        "counted(int,int,int,int)", "by(int)", "mirror(int)", "layMoment(int)", "layWorth(int)", "layDeterminant(int)",
        "layNumber(int,int)", "layRule(int,int)", "layValue(int,int,int)", "layProduct(int,int)", "layShare(int,int)",
        "layKernel(int,int,int)", "layLeft(int,int)", "sign()", "bits(int)", "word(int,int)", "against(int,int)",
        "below(int,int,int)", "shut(int,int,int)", "good()", "few()", "told(int)", "keep(int)", "back(int)", "differs(int)"};
    private static final String[] CONSTANTS = {"UNKNOWN", "OUTSIDE", "STATE", "FULL", "NO", "NONE"};
    private static final String[] BANNED = {"throw", "throws", "try", "catch", "synchronized", "assert", "->", "::", "Exact\\(",
        "protected", "native", "volatile", "Object", "BigInteger", "System\\.(?!arraycopy)", "new Random", "lambda"};
    private static final int MOST_METHOD_LINES = 60;
    /** What the room's 600,000 objects take at the least; its 7.3 million elements take more. */
    private static final long ROOM_BYTES = 600000 * 16L;
    private static final int MOST_CALLS = 512, GREAT_MOMENT_CALLS = 30;
    private static int wrong = 0;

    private static void check(boolean right, String what) {
        if (!right) {
            wrong++;
            System.out.println("not so: " + what);
        }
    }

    public static void main(String[] args) throws IOException {
        methods();
        fieldsAndConstructors();
        classesInside();
        text(Files.readString(Path.of("src/main/java/MomentDesk.java")));
        allocation();
        System.out.println(wrong == 0 ? "the face is as due" : wrong + " things are not as due");
        if (wrong != 0) {
            System.exit(1);
        }
    }

    private static String named(Method method) {
        StringBuilder text = new StringBuilder(method.getName()).append('(');
        for (Class<?> type : method.getParameterTypes()) {
            text.append(text.charAt(text.length() - 1) == '(' ? "" : ",").append(type.getSimpleName());
        }
        return text.append(')').toString();
    }

    private static TreeSet<String> faceNames() {
        TreeSet<String> names = new TreeSet<>();
        for (String method : FACE) {
            names.add(method.substring(0, method.indexOf('(')));
        }
        return names;
    }

    private static void methods() {
        TreeSet<String> due = new TreeSet<>(Arrays.asList(FACE));
        TreeSet<String> names = faceNames();
        for (Method method : MomentDesk.class.getDeclaredMethods()) {
            if (Modifier.isPublic(method.getModifiers())) {
                check(due.remove(named(method)), named(method) + " is of the face");
                check(method.getReturnType() == int.class, named(method) + " answers an int");
                check(!Modifier.isStatic(method.getModifiers()), named(method) + " is called on an object");
            } else {
                check(Modifier.isPrivate(method.getModifiers()), method + " is private");
                check(!names.contains(method.getName()), method + " does not bear the name of a public one");
            }
            check(method.getParameterCount() <= 7, method + " takes at most seven");
        }
        check(due.isEmpty(), "the whole face is there, without " + due);
    }

    private static void fieldsAndConstructors() {
        List<String> constants = Arrays.asList(CONSTANTS);
        int found = 0;
        for (Field field : MomentDesk.class.getDeclaredFields()) {
            int modifiers = field.getModifiers();
            if (Modifier.isPublic(modifiers)) {
                check(constants.contains(field.getName()) && field.getType() == int.class, field + " is of the face");
                check(Modifier.isStatic(modifiers) && Modifier.isFinal(modifiers), field + " is a constant");
                found++;
            } else {
                check(Modifier.isPrivate(modifiers), field + " is private");
                check(!Modifier.isStatic(modifiers) || Modifier.isFinal(modifiers), field + " is no static state");
            }
        }
        check(found == constants.size(), "all constants are there");
        Constructor<?>[] constructors = MomentDesk.class.getDeclaredConstructors();
        check(constructors.length == 1 && Modifier.isPublic(constructors[0].getModifiers())
            && constructors[0].getParameterCount() == 0, "one public constructor without numbers");
        check(Modifier.isFinal(MomentDesk.class.getModifiers()), "the class is final");
    }

    private static void classesInside() {
        Class<?>[] inside = MomentDesk.class.getDeclaredClasses();
        TreeSet<String> names = faceNames();
        check(inside.length + 1 <= 12, "at most twelve classes");
        for (Class<?> one : inside) {
            check(Modifier.isStatic(one.getModifiers()), one + " is static");
            check(!Modifier.isPublic(one.getModifiers()) && !Modifier.isProtected(one.getModifiers()), one + " is hidden");
            int fields = 0;
            for (Field field : one.getDeclaredFields()) {
                fields += Modifier.isStatic(field.getModifiers()) ? 0 : 1;
                check(!Modifier.isStatic(field.getModifiers()) || Modifier.isFinal(field.getModifiers()), field + " is final");
            }
            check(fields <= 20, one + " has at most twenty fields");
            for (Method method : one.getDeclaredMethods()) {
                boolean isPrivate = Modifier.isPrivate(method.getModifiers());
                check(!isPrivate || !names.contains(method.getName()), method + " does not bear the name of a public one");
                check(method.getParameterCount() <= 7, method + " takes at most seven");
            }
        }
    }

    private static void text(String source) {
        String code = source.replaceAll("(?s)/\\*.*?\\*/", "").replaceAll("//[^\n]*", "");
        for (String word : BANNED) {
            Pattern pattern = Pattern.compile(Character.isLetter(word.charAt(0)) ? "\\b" + word : word);
            Matcher matcher = pattern.matcher(code);
            check(!matcher.find(), "the text is without " + word);
        }
        check(code.chars().allMatch(c -> c < 128), "the text is plain");
        Matcher imports = Pattern.compile("import ([^;]+);").matcher(code);
        while (imports.find()) {
            check(imports.group(1).equals("java.util.Arrays"), imports.group(1) + " is of the library");
        }
        methodLengths(source.split("\n"), "    ");
        methodLengths(source.split("\n"), "        ");
    }

    private static void methodLengths(String[] lines, String indent) {
        int start = 0;
        for (int i = 0; i < lines.length; i++) {
            if (lines[i].startsWith(indent) && lines[i].substring(indent.length()).matches("[A-Za-z].*\\) \\{")) {
                start = i;
            }
            if (lines[i].equals(indent + "}") && lines[start].endsWith(") {")) {
                check(i - start < MOST_METHOD_LINES, "the method at line " + (start + 1) + " is short");
                start = 0;
            }
        }
    }

    /** A run of the dearest calls on great moments, as long as a desk is made for: the room must hold it. */
    private static void allocation() {
        com.sun.management.ThreadMXBean bean = (com.sun.management.ThreadMXBean) ManagementFactory.getThreadMXBean();
        dearestCalls(greatMoments());
        long before = bean.getCurrentThreadAllocatedBytes();
        int calls = GREAT_MOMENT_CALLS + dearestCalls(greatMoments());
        long used = bean.getCurrentThreadAllocatedBytes() - before;
        check(calls <= MOST_CALLS && calls > MOST_CALLS - 20, calls + " calls are a whole run");
        check(used < ROOM_BYTES, "a run is lean: " + used + " bytes");
    }

    private static MomentDesk greatMoments() {
        MomentDesk desk = new MomentDesk();
        int[] weights = {97, 3, 89, 11, 83, 17, 79, 23, 73, 31};
        for (int i = 0; i < weights.length; i++) {
            desk.point(2 * i - 9, weights[i]);
        }
        for (int i = 0; i < 20; i++) {
            desk.mirror(i % 2 == 0 ? 9 : -8);
        }
        return desk;
    }

    private static int dearestCalls(MomentDesk desk) {
        int calls = 0;
        for (int n = 1; n <= 5; n++) {
            for (int d = 1; d <= 11; d++) {
                desk.layLeft(n, d);
                desk.bits(0);
                desk.layKernel(n, 999, 1000 - d);
                desk.word(1, d);
                desk.layValue(n, 999983, 999979);
                desk.bits(1);
                desk.layRule(n - 1, d % 2);
                desk.word(0, 0);
                calls += 8;
            }
            desk.shut(n, 0, 10);
            desk.keep(n % 2);
            desk.mirror(0);
            desk.differs(n % 2);
            desk.few();
            calls += 5;
        }
        return calls;
    }
}
