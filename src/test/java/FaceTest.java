import java.lang.reflect.Constructor;
import java.lang.reflect.Field;
import java.lang.reflect.Method;
import java.lang.reflect.Modifier;
import java.util.Arrays;
import java.util.Set;
import java.util.TreeSet;

/** The class shows the document's face and nothing else (LANGUAGE.md, rules 1 and 5). */
public final class FaceTest {
    private static final Set<String> FACE = new TreeSet<>(Arrays.asList(
        "public int PortRules.part(int)",
        "public int PortRules.port(int,int,boolean)",
        "public int PortRules.unit(int,int,long,long)",
        "public int PortRules.connect(int,int)",
        "public int PortRules.flatten()",
        "public int PortRules.at(int,int) throws java.lang.IndexOutOfBoundsException",
        "public int PortRules.check()",
        "public int PortRules.manager(int,int)",
        "public int PortRules.fallback(int,int)",
        "public int PortRules.queue(int,int)",
        "public int PortRules.version(int,int)",
        "public int PortRules.open(int)"));
    private static int wrong = 0;

    public static void main(String[] args) {
        expect("the class is public and final",
            Modifier.isPublic(PortRules.class.getModifiers()) && Modifier.isFinal(PortRules.class.getModifiers()));
        constructors();
        methods();
        fields();
        System.out.println(wrong == 0 ? "the face is as due" : wrong + " things are not as due");
        if (wrong != 0) {
            System.exit(1);
        }
    }

    private static void expect(String what, boolean holds) {
        if (!holds) {
            wrong++;
            System.out.println("not so: " + what);
        }
    }

    private static void constructors() {
        Constructor<?>[] all = PortRules.class.getDeclaredConstructors();
        expect("one constructor", all.length == 1);
        expect("it is public and takes nothing", all[0].toString().equals("public PortRules()"));
    }

    private static void methods() {
        Set<String> shown = new TreeSet<>();
        Set<String> shownNames = new TreeSet<>();
        for (Method method : PortRules.class.getDeclaredMethods()) {
            if (!Modifier.isPrivate(method.getModifiers())) {
                shown.add(method.toString());
                shownNames.add(method.getName());
            }
        }
        expect("the methods shown are " + FACE + ", not " + shown, shown.equals(FACE));
        for (Method method : PortRules.class.getDeclaredMethods()) {
            if (Modifier.isPrivate(method.getModifiers())) {
                expect("no public method is named as the private " + method.getName(),
                    !shownNames.contains(method.getName()));
            }
        }
    }

    private static void fields() {
        for (Field field : PortRules.class.getDeclaredFields()) {
            int modifiers = field.getModifiers();
            expect(field.getName() + " is private", Modifier.isPrivate(modifiers));
            expect(field.getName() + " is no changing static", !Modifier.isStatic(modifiers) || Modifier.isFinal(modifiers));
        }
    }
}
