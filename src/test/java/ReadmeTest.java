import java.io.IOException;
import java.lang.reflect.Method;
import java.lang.reflect.Modifier;
import java.nio.file.Files;
import java.nio.file.Path;
import java.util.List;
import java.util.regex.Matcher;
import java.util.regex.Pattern;

/** What README.md shows is so: its calls answer what stands behind them, and no call of the face is left out. */
public final class ReadmeTest {
    private static final Pattern CALL = Pattern.compile("nursery\\.(\\w+)\\((.*)\\);\\s*// (-?\\d+): (.*)");
    private static final Pattern CODE = Pattern.compile("\\| (-\\d) \\| `(\\w+)` \\|.*");
    private static final Check CHECK = new Check("ReadmeTest");

    public static void main(String[] args) throws IOException, ReflectiveOperationException {
        List<String> lines = Files.readAllLines(Path.of("README.md"));
        callsAnswer(lines);
        codesAreNamed(lines);
        noCallIsLeftOut(String.join("\n", lines));
        textsArePackedAsShown(lines);
        CHECK.finish();
    }

    /** All examples are for one object, one after the other. */
    private static void callsAnswer(List<String> lines) throws ReflectiveOperationException {
        NurseryPlaces nursery = new NurseryPlaces();
        int calls = 0;
        for (String line : lines) {
            if (!line.startsWith("nursery.")) continue;
            Matcher call = CALL.matcher(line);
            CHECK.that("a call and its answer: " + line, call.matches());
            int answer = Integer.parseInt(call.group(3));
            CHECK.due(line, answerOf(nursery, call.group(1), call.group(2)), answer);
            Matcher name = Pattern.compile("([A-Z][A-Z_]+)\\b.*").matcher(call.group(4));
            if (name.matches()) CHECK.due("the name in " + line, constant(name.group(1)), answer);
            calls++;
        }
        CHECK.that("there are examples", calls >= 10);
    }

    private static int answerOf(NurseryPlaces nursery, String name, String list) throws ReflectiveOperationException {
        String[] words = list.isEmpty() ? new String[0] : list.split(", ");
        for (Method method : NurseryPlaces.class.getMethods()) {
            if (!method.getName().equals(name) || method.getParameterCount() != words.length) continue;
            Object[] arguments = new Object[words.length];
            for (int i = 0; i < words.length; i++) {
                boolean isLong = method.getParameterTypes()[i] == long.class;
                if (isLong) arguments[i] = valueOf(words[i]);
                else arguments[i] = (int) valueOf(words[i]);
            }
            return (int) method.invoke(nursery, arguments);
        }
        throw new NoSuchMethodException(name + "(" + list + ")");
    }

    private static long valueOf(String word) {
        if (word.startsWith("pack(\"")) return Texts.pack(word.substring(6, word.length() - 2));
        if (word.startsWith("0b")) return Long.parseLong(word.substring(2), 2);
        return Long.parseLong(word);
    }

    private static int constant(String name) throws ReflectiveOperationException {
        return NurseryPlaces.class.getField(name).getInt(null);
    }

    private static void codesAreNamed(List<String> lines) throws ReflectiveOperationException {
        int codes = 0;
        for (String line : lines) {
            Matcher code = CODE.matcher(line);
            if (!code.matches()) continue;
            CHECK.due(code.group(2), constant(code.group(2)), Integer.parseInt(code.group(1)));
            codes++;
        }
        CHECK.due("codes", codes, 6);
    }

    private static void noCallIsLeftOut(String text) {
        for (Method method : NurseryPlaces.class.getDeclaredMethods()) {
            boolean isOfFace = Modifier.isPublic(method.getModifiers());
            if (isOfFace) CHECK.that(method.getName() + " is named", text.contains("`" + method.getName() + "`"));
        }
    }

    private static void textsArePackedAsShown(List<String> lines) throws IOException {
        List<String> inTests = Files.readAllLines(Path.of("src/test/java/Texts.java")).stream().map(String::strip).toList();
        int from = lines.indexOf("static long pack(String text) {");
        CHECK.that("pack() is shown", from >= 0);
        for (int i = from; i >= 0 && !lines.get(i).equals("```"); i++) {
            CHECK.that("pack() in the tests: " + lines.get(i), inTests.contains(lines.get(i).strip()));
        }
    }
}
