import java.io.IOException;
import java.lang.reflect.Constructor;
import java.lang.reflect.Field;
import java.lang.reflect.Method;
import java.lang.reflect.Modifier;
import java.nio.file.Files;
import java.nio.file.Path;
import java.util.Arrays;
import java.util.HashSet;
import java.util.Set;
import java.util.TreeSet;
import java.util.regex.Matcher;
import java.util.regex.Pattern;
import java.util.stream.Collectors;

/** The class has the document's face and no other, and keeps to those rules of LANGUAGE.md that a text search can see. */
public final class FaceAndRulesTest {
    private static final String FACE = "feed(int,int,int,int,int)int end(int)int text()int fault(int)int put(int,int)int drop(int,int)int "
            + "cut(int,int,int)int join(int,int)int melt(int,int)int shift(int,int)int move(int,int,int,int)int "
            + "mark(int,int,int,boolean)int seek(int,int)int undo()int set(int,int)int key(int,int)int of(int,int,int)int "
            + "within(int,int,int,boolean)int far(int,int,int)int where(int)int count(int)int pair(int,int,int)int cheapest(int)int "
            + "merged(int)int would(int,int,boolean)int halves(int)int tell(int)int octet(int)int image(int)boolean again(int)boolean";

    /** What a static field may be, by rule 5. */
    private static final Set<Class<?>> CONSTANTS = Set.of(int.class, long.class, boolean.class, char.class, String.class,
            int[].class, long[].class, char[].class, byte[].class);
    /** The functions of the library that the class calls; another one is looked up in rule 4 before it stands here. */
    private static final Set<String> LIBRARY = Set.of("System.arraycopy", "Integer.compare", "Math.max", "Math.min");

    public static void main(String[] args) throws IOException {
        face();
        faceOfTheDocument();
        membersOfClassesInside();
        source(Files.readString(Path.of("src/main/java/MeltingHeaps.java")));
        Check.end("FaceAndRulesTest");
    }

    private static String signature(Method m) {
        return m.getName() + Arrays.stream(m.getParameterTypes()).map(Class::getName).collect(Collectors.joining(",", "(", ")"))
                + m.getReturnType().getName();
    }

    private static void face() {
        Class<?> c = MeltingHeaps.class;
        Check.due("NONE", MeltingHeaps.NONE, -1);
        Check.due("public and final", Modifier.isPublic(c.getModifiers()) && Modifier.isFinal(c.getModifiers()), true);
        Set<String> open = new TreeSet<>();
        for (Method m : c.getDeclaredMethods()) {
            if (!Modifier.isPrivate(m.getModifiers())) {
                open.add((Modifier.isPublic(m.getModifiers()) && !Modifier.isStatic(m.getModifiers()) ? "" : "not as due: ") + signature(m));
            }
        }
        Check.due("methods", String.join(" ", open), String.join(" ", new TreeSet<>(Arrays.asList(FACE.split(" ")))));
        for (Field f : c.getDeclaredFields()) {
            boolean none = f.getName().equals("NONE");
            int m = f.getModifiers();
            Check.due("field " + f.getName(), none ? Modifier.isPublic(m) : Modifier.isPrivate(m), true);
            Check.due("static field " + f.getName(), !Modifier.isStatic(m) || Modifier.isFinal(m), true);
        }
        Constructor<?>[] makers = c.getDeclaredConstructors();
        Check.due("constructors", makers.length, 1);
        Check.due("constructor", Modifier.isPublic(makers[0].getModifiers()) && makers[0].getParameterCount() == 0, true);
    }

    /** What the class is compared with is what the document writes. */
    private static void faceOfTheDocument() {
        if (Sentences.face().isEmpty()) {
            return;
        }
        Set<String> written = new TreeSet<>();
        Matcher m = Pattern.compile("public (int|boolean) ([a-z]+)\\(([^)]*)\\);").matcher(Sentences.face());
        while (m.find()) {
            written.add(m.group(2) + "(" + m.group(3).replaceAll(" [a-z]+(?=,|$)", "").replace(" ", "") + ")" + m.group(1));
        }
        Check.due("methods of the document", String.join(" ", written), String.join(" ", new TreeSet<>(Arrays.asList(FACE.split(" ")))));
        String rest = Sentences.face().replaceAll("public (int|boolean) [a-z]+\\([^)]*\\);", "").replaceAll("\\s+", " ").trim();
        Check.due("the rest of the face", rest,
                "public final class MeltingHeaps { public static final int NONE = -1; public MeltingHeaps(); }");
    }

    private static void membersOfClassesInside() {
        Set<String> names = new HashSet<>();
        for (String signature : FACE.split(" ")) {
            names.add(signature.substring(0, signature.indexOf('(')));
        }
        Class<?>[] inside = MeltingHeaps.class.getDeclaredClasses();
        Check.due("classes at most 12", inside.length + 1 <= 12, true);
        for (Class<?> c : inside) {
            Check.due(c + " is static", Modifier.isStatic(c.getModifiers()), true);
            Check.due(c + " is not public", Modifier.isPublic(c.getModifiers()) || Modifier.isProtected(c.getModifiers()), false);
            Check.due(c + " has none inside", c.getDeclaredClasses().length, 0);
            for (Method m : c.getDeclaredMethods()) {
                Check.due(c + " " + m.getName() + " bears a public name", names.contains(m.getName()), false);
            }
            fieldsAndParameters(c);
        }
        fieldsAndParameters(MeltingHeaps.class);
    }

    private static void fieldsAndParameters(Class<?> c) {
        long fields = Arrays.stream(c.getDeclaredFields()).filter(f -> !Modifier.isStatic(f.getModifiers())).count();
        Check.due(c + " has at most 20 fields", fields <= 20, true);
        for (Field f : c.getDeclaredFields()) {
            boolean constant = Modifier.isFinal(f.getModifiers()) && CONSTANTS.contains(f.getType());
            Check.due(c + " " + f.getName() + " is a constant if it is static", !Modifier.isStatic(f.getModifiers()) || constant, true);
        }
        for (Method m : c.getDeclaredMethods()) {
            Check.due(c + " " + m.getName() + " has at most 7 parameters", m.getParameterCount() <= 7, true);
        }
    }

    private static void source(String source) {
        String code = source.replaceAll("(?s)/\\*.*?\\*/", "").replaceAll("//[^\n]*", "").replaceAll("\"[^\"\n]*\"", "\"\"");
        String[] banned = {"throw", "throws", "try", "catch", "finally", "synchronized", "assert", "import", "package", "protected",
            "hashCode", "toString", "float", "double", "Object", "Random", "Thread", "instanceof", "goto", "native", "volatile"};
        for (String word : banned) {
            Check.due("the word " + word, Pattern.compile("\\b" + word + "\\b").matcher(code).find(), false);
        }
        Check.due("lambdas", code.contains("->"), false);
        Check.due("method references", code.contains("::"), false);
        Check.due("signs beyond 127", source.chars().allMatch(c -> c < 128), true);
        Matcher m = Pattern.compile("\\b(System|Math|Integer|Long|Arrays|List|String|java)\\.\\w+").matcher(code);
        while (m.find()) {
            Check.due(m.group() + " is of the library that rule 4 lists", LIBRARY.contains(m.group()), true);
        }
        lengths(code);
    }

    /** No method is longer than sixty lines. */
    private static void lengths(String code) {
        int length = 0;
        for (String line : code.split("\n")) {
            boolean head = line.matches("(    |        )(public |private |static )*[A-Za-z\\[\\]]+( [a-zA-Z]+)?\\(.*\\{");
            length = head ? 1 : length + 1;
            if (line.matches("    (    )?\\}")) {
                Check.due("a method is too long, up to: " + line, length <= 60, true);
                length = 0;
            }
            if (line.contains(" class ")) {
                length = 0;
            }
        }
    }
}
