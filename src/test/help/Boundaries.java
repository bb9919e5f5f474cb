import java.lang.annotation.ElementType;
import java.lang.annotation.Retention;
import java.lang.annotation.RetentionPolicy;
import java.lang.annotation.Target;
import java.lang.reflect.InvocationTargetException;
import java.lang.reflect.Method;
import java.util.ArrayList;
import java.util.Comparator;
import java.util.List;
import java.util.TreeSet;

/**
 * What the tests of boundaries share. Such a test is a static method without arguments, whose name begins with the
 * number of its promise and the method that it promises (p03_begin_..), and which bears the sentence of the document.
 */
abstract class Boundaries {
    static final int NO_SUCH = -1, BAD_VALUE = -2, BAD_TEXT = -3, TOO_MANY = -4, NOT_POSSIBLE = -5, NONE = -6;
    static final int RELAY = 0, EXACT = 1, LIVES = 2;
    static final int PITS = 0, STORE = 1, ALL = 2, HOW = 3, LEFT = 4, MOVES = 5, KEPT = 6, LAPS = 7, CAN = 8,
            IS_RELAY = 9, IS_EXACT = 10, IS_LIVES = 11, PAD = 12, UNDOABLE = 13;
    static final int GOES_ON = 0, WON = 1, LOST = 2, STUCK = 3;
    static final int MIN = Integer.MIN_VALUE, MAX = Integer.MAX_VALUE;

    /** The sentence of the document (of the promise itself, or of the Terms that it uses). */
    @Retention(RetentionPolicy.RUNTIME)
    @Target(ElementType.METHOD)
    @interface Says {
        String value();
    }

    interface Call {
        int on(OneRowSeeds x);
    }

    interface Maker {
        OneRowSeeds make();
    }

    private static final List<String> faults = new ArrayList<>();
    private static String test = "";

    static void fault(String what) {
        faults.add(test + ": " + what);
    }

    static void due(String call, int got, int want) {
        if (got != want) {
            fault(call + " answered " + got + ", due is " + want);
        }
    }

    // ---- objects

    static long code(String text) {
        long number = 0;
        for (int i = 0; i < text.length(); i++) {
            number = number << 8 | text.charAt(i);
        }
        return number;
    }

    static OneRowSeeds write(OneRowSeeds x, String text) {
        for (int i = 0; i < text.length(); i += 8) {
            x.put(code(text.substring(i, Math.min(i + 8, text.length()))));
        }
        return x;
    }

    static OneRowSeeds written(String text) {
        return write(new OneRowSeeds(), text);
    }

    /** A round that began with the text; four changes can be undone. */
    static OneRowSeeds loaded(String text, int relay, int exact, int lives) {
        OneRowSeeds x = new OneRowSeeds();
        x.set(RELAY, relay);
        x.set(EXACT, exact);
        x.set(LIVES, lives);
        write(x, text);
        int answer = x.load();
        if (answer < 0) {
            fault("load() of " + text + " answered " + answer);
        }
        return x;
    }

    static OneRowSeeds lost() {
        OneRowSeeds x = loaded("1,0,2/1", 1, 0, 0);
        x.sow(0);
        due("the round", x.count(HOW), LOST);
        return x;
    }

    static OneRowSeeds won() {
        OneRowSeeds x = loaded("0,0,1/1", 1, 0, 0);
        x.sow(2);
        due("the round", x.count(HOW), WON);
        return x;
    }

    static OneRowSeeds stuck() {
        OneRowSeeds x = loaded("1,1,1", 1, 1, 0);
        x.sow(2);
        due("the round", x.count(HOW), STUCK);
        return x;
    }

    /**
     * A round goes on, moves are kept, the pad has a text, both slots are full, and four changes can be undone
     * (2,2,2,0,3/1 with a life), or six, and one was dropped (0,3,3,0,3/1 without a life, and without relays).
     */
    static OneRowSeeds busy(boolean historyIsFull) {
        OneRowSeeds x = new OneRowSeeds();
        if (historyIsFull) {
            x.set(EXACT, 0);
        }
        x.sow(2);
        x.save(0);
        x.set(LIVES, 1);
        x.begin(5, 2);
        x.save(1);
        x.sow(3);
        if (historyIsFull) {
            x.set(RELAY, 0);
            x.sow(0);
        }
        return write(x, "3,1/2");
    }

    // ---- what can be seen

    /** The pits and the store against the text. */
    static void position(OneRowSeeds x, String want) {
        String got = positionOf(x);
        if (!got.equals(want)) {
            fault("the position is " + got + ", due is " + want);
        }
    }

    static String positionOf(OneRowSeeds x) {
        StringBuilder text = new StringBuilder();
        for (int pit = 0; pit < x.count(PITS); pit++) {
            text.append(pit > 0 ? "," : "").append(x.pit(pit));
        }
        return text.append('/').append(x.count(STORE)).toString();
    }

    /** The kept pits, the latest one first, against the text. */
    static void kept(OneRowSeeds x, String want) {
        StringBuilder got = new StringBuilder();
        for (int ago = 0; ago < x.count(KEPT); ago++) {
            got.append(x.move(ago));
        }
        if (!got.toString().equals(want)) {
            fault("the kept pits are " + got + ", due are " + want);
        }
    }

    private static String looks(OneRowSeeds x) {
        StringBuilder text = new StringBuilder(positionOf(x));
        for (int what = 0; what <= UNDOABLE; what++) {
            text.append(' ').append(x.count(what));
        }
        for (int ago = 0; ago < x.count(KEPT); ago++) {
            text.append(" m").append(x.move(ago));
        }
        return text.append(" f").append(x.fault()).append('\n').toString();
    }

    /** All that can be found out of an object; the object is used up by it. */
    private static String everything(OneRowSeeds x) {
        StringBuilder text = new StringBuilder(looks(x));
        for (int i = 0; i < 7; i++) {
            text.append(x.undo()).append(' ').append(looks(x));
        }
        for (int slot = 0; slot < 2; slot++) {
            text.append(x.restore(slot)).append(' ').append(looks(x));
        }
        return text.append(x.load()).append(' ').append(looks(x)).toString();
    }

    static void alike(String what, OneRowSeeds one, OneRowSeeds other) {
        String first = everything(one);
        String second = everything(other);
        if (!first.equals(second)) {
            fault(what + " makes a difference:\n" + first + "--- without it:\n" + second);
        }
    }

    /** Two objects come to the same state; one of them is asked, and nothing tells them apart then. */
    static void changesNothing(String what, Maker maker, Call call, int answer) {
        OneRowSeeds asked = maker.make();
        due(what, call.on(asked), answer);
        alike(what, asked, maker.make());
    }

    static void busyChangesNothing(String what, Call call, int answer) {
        changesNothing(what, () -> busy(false), call, answer);
        changesNothing(what, () -> busy(true), call, answer);
    }

    /** The call records one state, and undoing it brings back all but the pad. */
    static void isAChange(String what, Maker maker, Call call) {
        OneRowSeeds x = maker.make();
        int before = x.count(UNDOABLE);
        int answer = call.on(x);
        if (answer < 0) {
            fault(what + " answered " + answer);
        }
        due(what + ": changes that can be undone", x.count(UNDOABLE), Math.min(before + 1, 6));
        due(what + ": undo()", x.undo(), Math.min(before, 5));
        OneRowSeeds other = maker.make();
        if (before < 6) {
            x.wipe();
            other.wipe();
            alike(what + " that is undone", x, other);
        }
    }

    // ---- running

    private static void run(Method method) {
        test = method.getName();
        Says says = method.getAnnotation(Says.class);
        int before = faults.size();
        if (says == null) {
            fault("no sentence is told");
        }
        try {
            method.setAccessible(true);
            method.invoke(null);
        } catch (InvocationTargetException thrown) {
            fault("threw " + thrown.getCause());
        } catch (IllegalAccessException | IllegalArgumentException thrown) {
            fault("cannot be run: " + thrown);
        }
        if (faults.size() > before && says != null) {
            faults.add("    the document: " + says.value());
        }
    }

    private static List<Method> testsOf(Class<?> tests, String[] prefixes) {
        List<Method> found = new ArrayList<>();
        for (Method method : tests.getDeclaredMethods()) {
            boolean asked = prefixes.length == 0;
            for (String prefix : prefixes) {
                asked |= method.getName().startsWith(prefix);
            }
            if (asked && method.getName().matches("p\\d\\d_.*")) {
                found.add(method);
            }
        }
        found.sort(Comparator.comparing(Method::getName));
        return found;
    }

    /** Runs all tests, or those whose names begin with one of the prefixes; each promise from first to last has one. */
    static void runAll(Class<?> tests, int first, int last, String[] prefixes) {
        TreeSet<Integer> promises = new TreeSet<>();
        List<Method> found = testsOf(tests, prefixes);
        for (Method method : found) {
            promises.add(Integer.parseInt(method.getName().substring(1, 3)));
            run(method);
        }
        test = tests.getName();
        for (int promise = first; promise <= last && prefixes.length == 0; promise++) {
            if (!promises.contains(promise)) {
                fault("no test of promise " + promise);
            }
        }
        faults.forEach(System.out::println);
        System.out.println(found.size() + " tests of boundaries, " + (faults.isEmpty() ? "all hold" : "not all hold"));
        if (!faults.isEmpty() || found.isEmpty()) {
            System.exit(1);
        }
    }
}
