import java.io.IOException;
import java.lang.reflect.Method;
import java.lang.reflect.Modifier;
import java.nio.file.Files;
import java.nio.file.Path;
import java.util.ArrayList;
import java.util.List;
import java.util.TreeSet;
import java.util.regex.Matcher;
import java.util.regex.Pattern;
import java.util.stream.Stream;

/** README.md tells what is so: the answers of its calls, the calls that there are, and its tests. */
public final class ReadmeTest {
    private static final String MAKES = "OneRowSeeds seeds = new OneRowSeeds();";
    private static final Pattern BLOCK = Pattern.compile("(?s)```java\n(.*?)```");
    private static final Pattern LINE = Pattern.compile("(seeds\\..*;)\\s+// (-?\\d+): (.*)");
    private static final Pattern CALL = Pattern.compile("seeds\\.(\\w+)\\(([^;]*)\\);");
    private static final Pattern ERROR = Pattern.compile("([A-Z]+(?:_[A-Z]+)?), .*|([A-Z]+_[A-Z]+)");

    private static final List<String> faults = new ArrayList<>();
    private static int answers = 0;

    private static void check(boolean holds, String otherwise) {
        if (!holds) {
            faults.add(otherwise);
        }
    }

    private static long number(String text) throws ReflectiveOperationException {
        if (text.startsWith("'")) {
            return text.charAt(1);
        }
        if (text.startsWith("OneRowSeeds.")) {
            return OneRowSeeds.class.getField(text.substring("OneRowSeeds.".length())).getInt(null);
        }
        return Long.decode(text.endsWith("L") ? text.substring(0, text.length() - 1) : text);
    }

    private static List<Long> numbers(String texts) throws ReflectiveOperationException {
        List<Long> numbers = new ArrayList<>();
        Matcher each = Pattern.compile("'.'|[^,\\s]+").matcher(texts);
        while (each.find()) {
            numbers.add(number(each.group()));
        }
        return numbers;
    }

    private static int answer(OneRowSeeds seeds, String name, List<Long> given) throws ReflectiveOperationException {
        for (Method method : OneRowSeeds.class.getMethods()) {
            if (method.getName().equals(name) && method.getParameterCount() == given.size()) {
                Object[] arguments = new Object[given.size()];
                for (int i = 0; i < arguments.length; i++) {
                    boolean isLong = method.getParameterTypes()[i] == long.class;
                    arguments[i] = isLong ? (Object) given.get(i) : (Object) given.get(i).intValue();
                }
                return (Integer) method.invoke(seeds, arguments);
            }
        }
        throw new NoSuchMethodException(name);
    }

    private static void line(OneRowSeeds seeds, String text) throws ReflectiveOperationException {
        Matcher line = LINE.matcher(text);
        if (!line.matches()) {
            check(text.equals(MAKES), "a line that is no call with its answer: " + text);
            return;
        }
        int last = 0;
        Matcher call = CALL.matcher(line.group(1).replace("';'", "'" + (char) 1 + "'"));
        while (call.find()) {
            last = answer(seeds, call.group(1), numbers(call.group(2).replace((char) 1, ';')));
        }
        answers++;
        check(last == Integer.parseInt(line.group(2)), text + " answered " + last);
        Matcher error = ERROR.matcher(line.group(3));
        check(last >= 0 || error.matches(), text + " does not name its error");
        if (last < 0 && error.matches()) {
            String name = error.group(1) != null ? error.group(1) : error.group(2);
            check(OneRowSeeds.class.getField(name).getInt(null) == last, text + " names another error");
        }
    }

    private static void blocks(String page) throws ReflectiveOperationException {
        Matcher block = BLOCK.matcher(page);
        while (block.find()) {
            OneRowSeeds seeds = new OneRowSeeds();
            check(block.group(1).startsWith(MAKES), "a block that does not begin with a new object");
            for (String text : block.group(1).split("\n")) {
                line(seeds, text);
            }
        }
        check(answers > 20, "only " + answers + " answers were found");
    }

    private static void tableOfCalls(String page) {
        TreeSet<String> told = new TreeSet<>();
        Matcher row = Pattern.compile("(?m)^\\| (`[^|]*) \\|").matcher(page);
        while (row.find()) {
            told.addAll(List.of(row.group(1).replace("`", "").split(", ")));
        }
        TreeSet<String> there = new TreeSet<>();
        for (Method method : OneRowSeeds.class.getDeclaredMethods()) {
            if (Modifier.isPublic(method.getModifiers())) {
                there.add(method.getName());
            }
        }
        check(told.equals(there), "the table has " + told + ", there are " + there);
    }

    private static void tests(String page) throws IOException {
        TreeSet<String> told = new TreeSet<>();
        Matcher name = Pattern.compile("`(\\w+Test)`").matcher(page);
        while (name.find()) {
            told.add(name.group(1));
        }
        TreeSet<String> there = new TreeSet<>();
        try (Stream<Path> files = Files.list(Path.of("src/test/java"))) {
            files.forEach(file -> there.add(file.getFileName().toString().replace(".java", "")));
        }
        check(told.equals(there), "the page names the tests " + told + ", there are " + there);
    }

    private static void paths(String page) {
        Matcher path = Pattern.compile("(?:src|\\.ci|\\.\\./shared)/[\\w/.]*\\w").matcher(page);
        while (path.find()) {
            check(Files.exists(Path.of(path.group())), "there is no " + path.group());
        }
    }

    public static void main(String[] args) throws Exception {
        String page = Files.readString(Path.of("README.md"));
        blocks(page);
        tableOfCalls(page);
        tests(page);
        paths(page);
        faults.forEach(System.out::println);
        System.out.println(faults.isEmpty() ? answers + " answers of README.md are so" : faults.size() + " faults");
        if (!faults.isEmpty()) {
            System.exit(1);
        }
    }
}
