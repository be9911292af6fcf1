import java.io.IOException;
import java.lang.reflect.Method;
import java.lang.reflect.Modifier;
import java.math.BigInteger;
import java.nio.file.DirectoryStream;
import java.nio.file.Files;
import java.nio.file.Path;
import java.util.ArrayList;
import java.util.List;
import java.util.TreeSet;
import java.util.regex.Matcher;
import java.util.regex.Pattern;

/** What README.md shows: each call answers as it says there, and it shows the whole face and names all tests. */
public final class ReadmeTests extends Bench {
    private static final Path README = Path.of("README.md");
    private static final String NEW_DESK = "MomentDesk desk = new MomentDesk();";
    /** A call, what it answers (a number or a constant's name), and words, in which "lays" tells a fraction. */
    private static final Pattern CALL = Pattern.compile("desk\\.(\\w+)\\(([-\\d, ]*)\\); +// (-?\\d+|[A-Z]+)(?:: (.+))?");
    private static final Pattern LAYS = Pattern.compile("\\blays (-?\\d+)(?:/(\\d+))?\\b");

    public static void main(String[] args) {
        run(ReadmeTests.class);
    }

    static void eachCallAnswersAsToldThere() throws ReflectiveOperationException, IOException {
        List<List<String>> blocks = blocksOf(README);
        due(blocks.isEmpty() ? 0 : 1, 1);
        for (List<String> block : blocks) {
            runBlock(block);
        }
    }

    static void eachCallOfTheFaceIsShown() throws IOException {
        TreeSet<String> shown = new TreeSet<>();
        for (List<String> block : blocksOf(README)) {
            for (String line : block) {
                Matcher call = CALL.matcher(line);
                if (call.matches()) {
                    shown.add(call.group(1));
                }
            }
        }
        for (Method method : MomentDesk.class.getDeclaredMethods()) {
            if (Modifier.isPublic(method.getModifiers()) && !shown.contains(method.getName())) {
                fail("README.md does not show " + method.getName());
            }
        }
    }

    static void eachTestIsNamed() throws IOException {
        String text = Files.readString(README);
        try (DirectoryStream<Path> tests = Files.newDirectoryStream(Path.of("src/test/java"), "*.java")) {
            for (Path test : tests) {
                String name = test.getFileName().toString().replace(".java", "");
                if (!text.contains("`" + name + "`")) {
                    fail("README.md does not name " + name);
                }
            }
        }
        if (!text.contains("\n    .ci/run\n")) {
            fail("README.md does not say how to run the tests");
        }
    }

    /** The lines of each Java block. */
    private static List<List<String>> blocksOf(Path text) throws IOException {
        List<List<String>> found = new ArrayList<>();
        List<String> block = null;
        for (String line : Files.readAllLines(text)) {
            if (line.equals("```java")) {
                block = new ArrayList<>();
                found.add(block);
            } else if (line.startsWith("```")) {
                block = null;
            } else if (block != null) {
                block.add(line);
            }
        }
        return found;
    }

    private static void runBlock(List<String> block) throws ReflectiveOperationException {
        if (block.isEmpty() || !block.get(0).equals(NEW_DESK)) {
            fail("a block does not begin with a new desk: " + block);
            return;
        }
        MomentDesk desk = new MomentDesk();
        for (String line : block.subList(1, block.size())) {
            Matcher call = CALL.matcher(line);
            if (call.matches()) {
                runLine(desk, line, call);
            } else {
                fail("is no call with its answer: " + line);
            }
        }
    }

    private static void runLine(MomentDesk desk, String line, Matcher call) throws ReflectiveOperationException {
        int got = answer(desk, call.group(1), call.group(2).isEmpty() ? new String[0] : call.group(2).split(", "));
        int told = Character.isLetter(call.group(3).charAt(0))
            ? MomentDesk.class.getField(call.group(3)).getInt(null) : Integer.parseInt(call.group(3));
        if (got != told) {
            fail("answered " + got + ": " + line);
        }
        String words = call.group(4) == null ? "" : call.group(4);
        Matcher lays = LAYS.matcher(words);
        if (lays.find()) {
            checkHand(desk, line, lays);
        } else if (call.group(1).startsWith("lay") && told >= 0) {
            fail("does not tell what it lays: " + line);
        }
    }

    private static void checkHand(MomentDesk desk, String line, Matcher lays) {
        BigInteger upper = number(desk, 0);
        String got = (desk.sign() == 2 ? upper.negate() : upper) + "/" + number(desk, 1);
        String told = lays.group(1) + "/" + (lays.group(2) == null ? "1" : lays.group(2));
        if (!got.equals(told)) {
            fail("laid " + got + ": " + line);
        }
    }

    private static BigInteger number(MomentDesk desk, int what) {
        BigInteger value = BigInteger.ZERO;
        for (int k = (desk.bits(what) + 15) / 16 - 1; k >= 0; k--) {
            value = value.shiftLeft(16).add(BigInteger.valueOf(desk.word(what, k)));
        }
        return value;
    }

    private static int answer(MomentDesk desk, String name, String[] numbers) throws ReflectiveOperationException {
        Class<?>[] types = new Class<?>[numbers.length];
        Object[] values = new Object[numbers.length];
        for (int i = 0; i < numbers.length; i++) {
            types[i] = int.class;
            values[i] = Integer.valueOf(numbers[i].trim());
        }
        return (Integer) MomentDesk.class.getMethod(name, types).invoke(desk, values);
    }
}
