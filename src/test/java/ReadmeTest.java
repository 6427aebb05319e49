import java.io.IOException;
import java.lang.reflect.InvocationTargetException;
import java.lang.reflect.Method;
import java.lang.reflect.Modifier;
import java.nio.file.Files;
import java.nio.file.Path;
import java.util.List;
import java.util.regex.Matcher;
import java.util.regex.Pattern;
import java.util.stream.Collectors;
import java.util.stream.Stream;

/** README.md's example answers as it says there; no call and no test is missing in its tables. Begun in the root folder. */
public final class ReadmeTest {
    /** Such a line: x.call(1, true);  // answer: what it means */
    private static final Pattern LINE = Pattern.compile("x\\.(\\w+)\\(([^)]*)\\);\\s+// (throws )?([^:\\s]+).*");
    private static final String BEGIN = "```java";
    private static final String END = "```";

    private ReadmeTest() {
    }

    private static Object argument(String text) {
        boolean isTruth = text.equals("true") || text.equals("false");
        return isTruth ? (Object) Boolean.valueOf(text) : (Object) Integer.valueOf(text);
    }

    private static Object[] arguments(String texts) {
        return Stream.of(texts.split(",")).map(String::trim).filter(each -> !each.isEmpty())
            .map(ReadmeTest::argument).toArray();
    }

    private static Method called(String name) {
        for (Method method : Knitstead.class.getDeclaredMethods()) {
            if (method.getName().equals(name) && Modifier.isPublic(method.getModifiers())) {
                return method;
            }
        }
        throw new IllegalArgumentException("README.md calls " + name);
    }

    private static String answer(Knitstead x, String name, String texts, boolean throwsIt) throws IllegalAccessException {
        try {
            return (throwsIt ? "no exception, but " : "") + called(name).invoke(x, arguments(texts));
        } catch (InvocationTargetException e) {
            return (throwsIt ? "" : "throws ") + e.getCause().getClass().getSimpleName();
        }
    }

    private static void example(List<String> lines) throws IllegalAccessException {
        int first = lines.indexOf(BEGIN) + 1;
        Check.due("README.md has an example", true, first > 0);
        Check.due("README.md, the new object", "Knitstead x = new Knitstead();", lines.get(first));
        Knitstead x = new Knitstead();
        for (int i = first + 1; !lines.get(i).equals(END); i++) {
            Matcher line = LINE.matcher(lines.get(i));
            Check.due("README.md, " + lines.get(i) + ": it is a call with its answer", true, line.matches());
            if (line.matches()) {
                Check.due("README.md, " + lines.get(i), line.group(4),
                    answer(x, line.group(1), line.group(2), line.group(3) != null));
            }
        }
    }

    private static void isTold(List<String> lines, String begin) {
        Check.due("README.md's lines that begin with " + begin, 1L, lines.stream().filter(l -> l.startsWith(begin)).count());
    }

    private static List<String> tests(Path folder) throws IOException {
        try (Stream<Path> files = Files.list(folder)) {
            return files.map(file -> file.getFileName().toString()).filter(name -> name.endsWith("Test.java"))
                .map(name -> name.substring(0, name.length() - ".java".length())).sorted().collect(Collectors.toList());
        }
    }

    public static void main(String[] args) throws IOException, IllegalAccessException {
        List<String> lines = Files.readAllLines(Path.of("README.md"));
        example(lines);
        for (Method method : Knitstead.class.getDeclaredMethods()) {
            if (Modifier.isPublic(method.getModifiers())) {
                isTold(lines, "| `" + method.getName() + "(");
            }
        }
        for (String test : tests(Path.of("src", "test", "java"))) {
            isTold(lines, "| `" + test + "` |");
        }
        Check.end();
    }
}
