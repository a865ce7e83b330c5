import java.io.IOException;
import java.lang.reflect.Method;
import java.lang.reflect.Modifier;
import java.nio.file.DirectoryStream;
import java.nio.file.Files;
import java.nio.file.Path;
import java.util.Set;
import java.util.TreeSet;
import java.util.regex.Matcher;
import java.util.regex.Pattern;

/** README.md says what is so: its examples answer as it says, and it names every call and every test. */
public final class ReadmeTest {
    private static final String MAKE = "MeltingHeaps x = new MeltingHeaps();";
    private static final Pattern CALL = Pattern.compile("x\\.(\\w+)\\(([^)]*)\\); +// (-?\\d+|true|false)\\b.*");

    public static void main(String[] args) throws IOException, ReflectiveOperationException {
        String readme = Files.readString(Path.of("README.md"));
        examples(readme);
        lines(readme);
        everyCall(readme);
        everyTest(readme);
        Check.end("ReadmeTest");
    }

    private static void examples(String readme) throws ReflectiveOperationException {
        Matcher block = Pattern.compile("(?s)```java\n(.*?)```").matcher(readme);
        int blocks = 0;
        while (block.find()) {
            blocks++;
            MeltingHeaps x = null;
            for (String line : block.group(1).split("\n")) {
                Matcher call = CALL.matcher(line);
                if (line.equals(MAKE)) {
                    x = new MeltingHeaps();
                } else if (call.matches()) {
                    Check.due(line, call(x, call.group(1), call.group(2)), call.group(3));
                } else {
                    Check.due("a line of an example", line, "x.call(..);  // its answer");
                }
            }
        }
        Check.due("examples", blocks, 2);
    }

    private static String call(MeltingHeaps x, String name, String given) throws ReflectiveOperationException {
        String[] parts = given.isEmpty() ? new String[0] : given.split(", *");
        for (Method method : MeltingHeaps.class.getMethods()) {
            Class<?>[] types = method.getParameterTypes();
            if (method.getName().equals(name) && types.length == parts.length) {
                Object[] values = new Object[parts.length];
                for (int i = 0; i < parts.length; i++) {
                    values[i] = types[i] == int.class ? (Object) Long.decode(parts[i]).intValue() : (Object) Boolean.valueOf(parts[i]);
                }
                return String.valueOf(method.invoke(x, values));
            }
        }
        return "no such call";
    }

    /** The lines of the text are one TEXT without a FAULT, each with what it means behind its ';'. */
    private static void lines(String readme) {
        Matcher block = Pattern.compile("(?s)```text\n(.*?)```").matcher(readme);
        Check.due("there are lines of a text", block.find(), true);
        MeltingHeaps x = Check.with(block.group(1).replaceAll(";[^\n]*", ";"));
        Check.due("set 0", Check.told(x, 0), "1 5 9");
        Check.due("set 3", Check.told(x, 3), "2* 3* 4");
        Check.due("KEYS in all", x.count(0), 6);
    }

    private static void everyCall(String readme) {
        for (Method method : MeltingHeaps.class.getDeclaredMethods()) {
            if (Modifier.isPublic(method.getModifiers())) {
                Check.due("README.md names " + method.getName(), readme.contains("`" + method.getName() + "`"), true);
            }
        }
    }

    private static void everyTest(String readme) throws IOException {
        Set<String> there = new TreeSet<>();
        try (DirectoryStream<Path> files = Files.newDirectoryStream(Path.of("src/test/java"), "*Test.java")) {
            for (Path file : files) {
                there.add(file.getFileName().toString().replace(".java", ""));
            }
        }
        Set<String> named = new TreeSet<>();
        Matcher row = Pattern.compile("`(\\w+Test)`").matcher(readme);
        while (row.find()) {
            named.add(row.group(1));
        }
        Check.due("tests that README.md names", named.toString(), there.toString());
    }
}
