import java.io.IOException;
import java.lang.reflect.Method;
import java.nio.file.Files;
import java.nio.file.Path;
import java.util.List;
import java.util.regex.Matcher;
import java.util.regex.Pattern;
import java.util.stream.Stream;

/** README.md is right: its example answers what it says, and it names every call, every refusal and every test. */
public final class ReadmeTest {
    private static final Checks C = new Checks();
    private static final Pattern CALL = Pattern.compile("x\\.(\\w+)\\((.*?)\\); +// (-?\\d+)\\b.*");

    public static void main(String[] args) throws ReflectiveOperationException, IOException {
        String page = Files.readString(Path.of("README.md"));
        example(page);
        calls(page);
        refusals(page);
        tests(page);
        C.end();
    }

    private static void example(String page) throws ReflectiveOperationException {
        C.part("the example of README.md");
        int from = page.indexOf("```java\n");
        int to = page.indexOf("```\n", from + 8);
        if (from < 0 || to < 0) {
            C.wrong("there is none");
            return;
        }
        EveryHand x = new EveryHand();
        int made = 0;
        for (String line : page.substring(from + 8, to).split("\n")) {
            Matcher m = CALL.matcher(line);
            if (m.matches()) {
                C.due(line, answer(x, m.group(1), m.group(2)), Integer.parseInt(m.group(3)));
                made++;
            } else if (!line.isEmpty() && !line.startsWith("// ") && !line.equals("EveryHand x = new EveryHand();")) {
                C.wrong("a line without an answer: " + line);
            }
        }
        C.due("calls, so that none is passed over", made, page.split("\nx\\.").length - 1);
    }

    private static int answer(EveryHand x, String name, String told) throws ReflectiveOperationException {
        String[] words = told.isEmpty() ? new String[0] : told.split(", ");
        for (Method m : EveryHand.class.getMethods()) {
            if (m.getName().equals(name) && m.getDeclaringClass() == EveryHand.class && m.getParameterCount() == words.length) {
                Object[] with = new Object[words.length];
                for (int i = 0; i < with.length; i++) {
                    with[i] = value(words[i], m.getParameterTypes()[i]);
                }
                return (int) m.invoke(x, with);
            }
        }
        C.wrong("there is no such call: " + name + "(" + told + ")");
        return 0;
    }

    private static Object value(String word, Class<?> type) {
        if (type == boolean.class) {
            return Boolean.valueOf(word);
        }
        if (type == long.class) {
            return Long.decode(word.replace("L", ""));
        }
        return Integer.decode(word);
    }

    private static void calls(String page) {
        C.part("the calls of README.md");
        for (Method m : EveryHand.class.getMethods()) {
            if (m.getDeclaringClass() == EveryHand.class && !page.contains("`" + m.getName() + "`")) {
                C.wrong("it doesn't name " + m.getName());
            }
        }
    }

    private static void refusals(String page) {
        C.part("the refusals of README.md");
        List<String> all = List.of("-1 `EveryHand.BAD`", "-2 `EveryHand.FULL`", "-3 `EveryHand.NONE`", "-4 `EveryHand.STATE`", "-9",
            "-11", "-12", "-13", "-14", "-15", "-100 and below");
        for (String refusal : all) {
            if (!page.contains("\n| " + refusal + " | ")) {
                C.wrong("it doesn't name " + refusal);
            }
        }
        C.due("BAD", EveryHand.BAD, -1);
        C.due("FULL", EveryHand.FULL, -2);
        C.due("NONE", EveryHand.NONE, -3);
        C.due("STATE", EveryHand.STATE, -4);
    }

    private static void tests(String page) throws IOException {
        C.part("the tests of README.md");
        try (Stream<Path> files = Files.list(Path.of("src/test/java"))) {
            for (Path file : files.toList()) {
                String name = file.getFileName().toString().replace(".java", "");
                if (!page.contains("`" + name + "`")) {
                    C.wrong("it doesn't name " + name);
                }
            }
        }
        Matcher named = Pattern.compile("`(\\w+Test)`").matcher(page);
        while (named.find()) {
            if (!Files.exists(Path.of("src/test/java/" + named.group(1) + ".java"))) {
                C.wrong("there is no test " + named.group(1));
            }
        }
    }
}
