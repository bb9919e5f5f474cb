import java.io.IOException;
import java.lang.reflect.Constructor;
import java.lang.reflect.Field;
import java.lang.reflect.Method;
import java.lang.reflect.Modifier;
import java.nio.file.Files;
import java.nio.file.Path;
import java.util.ArrayList;
import java.util.List;
import java.util.Set;
import java.util.TreeSet;
import java.util.regex.Pattern;

/** The class's face is the document's, and its text keeps to the rules of LANGUAGE.md that can be read from it. */
public final class FaceTest {
    private static final List<String> faults = new ArrayList<>();

    private static final Set<String> METHODS = Set.of("set(int,int)", "begin(int,int)", "load()", "loadExact(int,int)",
            "sow(int)", "back()", "play()", "pit(int)", "count(int)", "move(int)", "ifSown(int,int)",
            "ifSownHas(int,int)", "best(int)", "exact(int,int)", "put(long)", "wipe()", "fault()", "undo()",
            "save(int)", "restore(int)");
    private static final String[] NAMES = {"NO_SUCH", "BAD_VALUE", "BAD_TEXT", "TOO_MANY", "NOT_POSSIBLE", "NONE",
        "RELAY", "EXACT", "LIVES"};
    private static final int[] VALUES = {-1, -2, -3, -4, -5, -6, 0, 1, 2};

    private static void check(boolean holds, String otherwise) {
        if (!holds) {
            faults.add(otherwise);
        }
    }

    private static void constants() throws IllegalAccessException, NoSuchFieldException {
        for (int i = 0; i < NAMES.length; i++) {
            Field field = OneRowSeeds.class.getField(NAMES[i]);
            check(field.getType() == int.class && Modifier.isStatic(field.getModifiers())
                    && Modifier.isFinal(field.getModifiers()), NAMES[i] + " is no constant");
            check(field.getInt(null) == VALUES[i], NAMES[i] + " has another value");
        }
        for (Field field : OneRowSeeds.class.getDeclaredFields()) {
            check(Modifier.isPrivate(field.getModifiers()) || List.of(NAMES).contains(field.getName()),
                    field.getName() + " is not private");
        }
    }

    private static String signature(Method method) {
        StringBuilder text = new StringBuilder(method.getName()).append('(');
        for (Class<?> type : method.getParameterTypes()) {
            text.append(text.charAt(text.length() - 1) == '(' ? "" : ",").append(type.getName());
        }
        return text.append(')').toString();
    }

    private static void methods() {
        Set<String> found = new TreeSet<>();
        for (Method method : OneRowSeeds.class.getDeclaredMethods()) {
            if (Modifier.isPublic(method.getModifiers())) {
                found.add(signature(method));
                check(method.getReturnType() == int.class, method.getName() + " does not return an int");
            } else {
                check(Modifier.isPrivate(method.getModifiers()), method.getName() + " is not private");
                check(METHODS.stream().noneMatch(s -> s.startsWith(method.getName() + "(")),
                        method.getName() + " bears the name of a public method");
            }
        }
        check(found.equals(METHODS), "the public methods are " + found);
    }

    private static void constructorAndClasses() {
        Constructor<?>[] constructors = OneRowSeeds.class.getDeclaredConstructors();
        check(constructors.length == 1 && Modifier.isPublic(constructors[0].getModifiers())
                && constructors[0].getParameterCount() == 0, "the constructor is another one");
        check(Modifier.isFinal(OneRowSeeds.class.getModifiers()), "the class is not final");
        check(OneRowSeeds.class.getPackageName().isEmpty(), "the class has a package");
        for (Class<?> inside : OneRowSeeds.class.getDeclaredClasses()) {
            check(Modifier.isStatic(inside.getModifiers()) && !Modifier.isPublic(inside.getModifiers())
                    && !Modifier.isProtected(inside.getModifiers()), inside.getName() + " is public or not static");
        }
    }

    private static void text() throws IOException {
        String code = Files.readString(Path.of("src/main/java/OneRowSeeds.java"))
                .replaceAll("(?s)/\\*.*?\\*/", " ").replaceAll("//[^\n]*", " ")
                .replaceAll("\\b(case\\b[^;{}]*?|default\\s*)->", " ");
        String[] patterns = {"\\bthrows?\\b", "\\btry\\b", "\\bcatch\\b", "\\bsynchronized\\b", "\\bassert\\b",
            "\\bpackage\\b", "\\bprotected\\b", "\\bhashCode\\b", "\\bSystem\\.(?!arraycopy\\b)",
            "\\b(Math|Integer|Long)\\.\\w+Exact\\b", "\\bimport\\s+(?!java\\.util\\.(ArrayList|List|Iterator|Arrays);)",
            "->", "::"};
        for (String pattern : patterns) {
            check(!Pattern.compile(pattern).matcher(code).find(), "the text has " + pattern);
        }
    }

    public static void main(String[] args) throws Exception {
        constants();
        methods();
        constructorAndClasses();
        text();
        for (String fault : faults) {
            System.out.println(fault);
        }
        System.out.println(faults.isEmpty() ? "the face is the document's" : faults.size() + " faults");
        if (!faults.isEmpty()) {
            System.exit(1);
        }
    }
}
