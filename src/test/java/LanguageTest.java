import java.io.IOException;
import java.lang.reflect.Field;
import java.lang.reflect.Method;
import java.lang.reflect.Modifier;
import java.nio.file.Files;
import java.nio.file.Path;
import java.util.List;
import java.util.Set;
import java.util.regex.Matcher;
import java.util.regex.Pattern;

/** What can be seen of LANGUAGE.md's rules in the class's source and its face; FaceTest has rule 1. */
public final class LanguageTest extends Answers {
    private static final Path SOURCE = Path.of("src/main/java/PortRules.java");
    private static final Set<String> IMPORTS = Set.of("java.util.ArrayList", "java.util.Arrays", "java.util.Iterator",
        "java.util.List", "java.util.NoSuchElementException");
    private static final Set<Class<?>> CONSTANTS = Set.of(int.class, long.class, boolean.class, char.class,
        String.class, int[].class, long[].class, char[].class, byte[].class);
    private static String code;

    public static void main(String[] args) throws IOException {
        String text = Files.readString(SOURCE);
        code = text.replaceAll("(?s)/\\*.*?\\*/", "").replaceAll("//[^\n]*", "");
        oneFile();
        noFunctionObjects(text);
        libraryOnlyAsListed();
        staticsAreConstants();
        exceptionsOnlyAsListed();
        smallEnough();
        nothingFromOutside();
        end();
    }

    private static void none(String pattern) {
        Matcher found = Pattern.compile(pattern).matcher(code);
        while (found.find()) {
            fault("the source holds: " + found.group());
        }
    }

    private static void oneFile() throws IOException {
        says("The program is one file .. without a package line");
        none("(?m)^package\\b.*$");
        try (var files = Files.list(SOURCE.getParent())) {
            due("files beside each other", 1, files.count());
        }
    }

    private static void noFunctionObjects(String text) {
        says("2 .. no lambda, no method reference; 3 Texts hold characters 0 to 255 alone");
        none("->|::");
        due("characters beyond 255", 0, text.chars().filter(c -> c > 255).count());
    }

    private static void libraryOnlyAsListed() {
        says("4 The library: only what stands here");
        Matcher found = Pattern.compile("import\\s+([^;]+);").matcher(code);
        while (found.find()) {
            if (!IMPORTS.contains(found.group(1))) {
                fault("import of " + found.group(1));
            }
        }
        none("\\w+Exact\\b");
        none("\\bSystem\\.(?!arraycopy\\b)\\w+");
        none("\\bArrays\\.(?!copyOf\\b|copyOfRange\\b|fill\\b)\\w+");
        none("\\b(java|javax)\\.(?!util\\.\\w+;)[\\w.]+");
    }

    private static void staticsAreConstants() {
        says("5 Static fields are final: constants .. no static initialiser block");
        none("\\bstatic\\s*\\{");
        for (Field field : PortRules.class.getDeclaredFields()) {
            int modifiers = field.getModifiers();
            if (Modifier.isStatic(modifiers) && !(Modifier.isFinal(modifiers) && CONSTANTS.contains(field.getType()))) {
                fault("static field " + field.getName());
            }
        }
    }

    private static void exceptionsOnlyAsListed() {
        says("6 Exceptions: throw new E() or throw new E(\"a written text\")");
        none("\\bthrow\\b(?! new (IllegalStateException|IllegalArgumentException|IndexOutOfBoundsException"
            + "|ArithmeticException|UnsupportedOperationException|NoSuchElementException|RuntimeException)"
            + "\\((\"[^\"]*\")?\\);)[^;]*;");
        // Rule 6 allows some uses of try and equals; the class needs none, so all are kept out.
        none("\\b(try|catch|finally|synchronized|assert|getMessage|equals|hashCode|toString)\\b");
        none("(?s)public PortRules\\(\\) \\{[^}]*\\bthrow\\b");
    }

    private static void smallEnough() {
        says("11 A method takes at most seven parameters .. some sixty lines .. some twenty fields");
        for (Method method : PortRules.class.getDeclaredMethods()) {
            if (method.getParameterCount() > 7) {
                fault("parameters of " + method.getName());
            }
        }
        long fields = List.of(PortRules.class.getDeclaredFields()).stream()
            .filter(field -> !Modifier.isStatic(field.getModifiers())).count();
        if (fields > 20) {
            fault(fields + " fields");
        }
        Matcher found = Pattern.compile("(?ms)^    (?:public|private)[^;={]*\\{$.*?^    \\}$").matcher(code);
        int methods = 0;
        while (found.find()) {
            methods++;
            if (found.group().lines().count() > 60) {
                fault("a long method: " + found.group().lines().findFirst().orElse(""));
            }
        }
        due("methods and constructors seen", PortRules.class.getDeclaredMethods().length + 1, methods);
    }

    private static void nothingFromOutside() {
        says("13 No clock, no randomness, no file, network, thread or environment");
        none("\\b(random|Random|Thread|Runtime|Process|File|Files|Path|Socket|Scanner|identityHashCode|native)\\b");
    }
}
