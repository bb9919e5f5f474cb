import java.util.ArrayList;
import java.util.List;

/** One method for each promise of the document: ordinary calls, the edges it names, and wrong arguments. */
public final class PromisesTest {
    private static final int NO_SUCH = -1, BAD_VALUE = -2, BAD_TEXT = -3, TOO_MANY = -4, NOT_POSSIBLE = -5, NONE = -6;
    private static final int RELAY = 0, EXACT = 1, LIVES = 2;
    private static final int PITS = 0, STORE = 1, ALL = 2, HOW = 3, LEFT = 4, MOVES = 5, KEPT = 6, LAPS = 7, CAN = 8,
            PAD = 12, UNDOABLE = 13;
    private static final int GOES_ON = 0, WON = 1, LOST = 2, STUCK = 3;

    private static final List<String> faults = new ArrayList<>();
    private static String promise = "";

    private static void due(String call, int got, int want) {
        if (got != want) {
            faults.add(promise + ": " + call + " answered " + got + ", due is " + want);
        }
    }

    private static void write(OneRowSeeds x, String text) {
        for (int i = 0; i < text.length(); i++) {
            x.put(text.charAt(i));
        }
    }

    private static OneRowSeeds loaded(String text, int relay, int exact, int lives) {
        OneRowSeeds x = new OneRowSeeds();
        x.set(RELAY, relay);
        x.set(EXACT, exact);
        x.set(LIVES, lives);
        write(x, text);
        due("load() of " + text, Math.min(x.load(), 1), 1);
        return x;
    }

    private static long code(String text) {
        long number = 0;
        for (int i = 0; i < text.length(); i++) {
            number = number << 8 | text.charAt(i);
        }
        return number;
    }

    /** The pits and the store against the text. */
    private static void position(OneRowSeeds x, String want) {
        StringBuilder got = new StringBuilder();
        for (int pit = 0; pit < x.count(PITS); pit++) {
            got.append(pit > 0 ? "," : "").append(x.pit(pit));
        }
        got.append('/').append(x.count(STORE));
        if (!got.toString().equals(want)) {
            faults.add(promise + ": the position is " + got + ", due is " + want);
        }
    }

    private static void newObject() {
        OneRowSeeds x = new OneRowSeeds();
        position(x, "2,2,2,2/0");
        int[] want = {4, 0, 8, GOES_ON, 0, 0, 0, NONE, 15, 1, 0, 0, 0, 0};
        for (int what = 0; what < want.length; what++) {
            due("count(" + what + ")", x.count(what), want[what]);
        }
        due("fault()", x.fault(), 0);
        due("undo()", x.undo(), NOT_POSSIBLE);
        due("restore(0)", x.restore(0), NOT_POSSIBLE);
        due("restore(1)", x.restore(1), NOT_POSSIBLE);
    }

    private static void set() {
        OneRowSeeds x = new OneRowSeeds();
        int[] first = {1, 0, 0};
        for (int setting = 0; setting < 3; setting++) {
            int other = 1 - first[setting];
            due("set(" + setting + ", same)", x.set(setting, first[setting]), first[setting]);
            due("set(" + setting + ", other)", x.set(setting, other), first[setting]);
            due("count", x.count(9 + setting), other);
            due("set(" + setting + ", back)", x.set(setting, first[setting]), other);
            due("count", x.count(9 + setting), first[setting]);
        }
        for (int bad : new int[] {-1, 2, Integer.MIN_VALUE, Integer.MAX_VALUE}) {
            due("set(0, " + bad + ")", x.set(0, bad), BAD_VALUE);
        }
        for (int bad : new int[] {-1, 3, Integer.MIN_VALUE, Integer.MAX_VALUE}) {
            due("set(" + bad + ", 0)", x.set(bad, 0), BAD_VALUE);
        }
        setInARound();
    }

    private static void setInARound() {
        OneRowSeeds x = new OneRowSeeds();
        x.set(LIVES, 1);
        due("lives of the round that runs", x.count(LEFT), 0);
        x.begin(4, 2);
        due("lives of the round that begins", x.count(LEFT), 1);
        x.set(LIVES, 0);
        due("lives stay", x.count(LEFT), 1);
        due("two laps", x.ifSown(0, 1), 2);
        x.set(RELAY, 0);
        due("one lap", x.ifSown(0, 1), 1);
        x.set(EXACT, 1);
        due("pits that can be sown", x.count(CAN), 4);
    }

    private static void begin() {
        OneRowSeeds x = new OneRowSeeds();
        due("begin(2, 1)", x.begin(2, 1), 2);
        position(x, "1,1/0");
        due("begin(2, 7)", x.begin(2, 7), 14);
        position(x, "7,7/0");
        due("begin(6, 2)", x.begin(6, 2), 12);
        position(x, "2,2,2,2,2,2/0");
        int[][] bad = {{1, 1}, {7, 1}, {-1, 1}, {2, 0}, {2, 8}, {2, -1}, {7, 8},
                {Integer.MAX_VALUE, 1}, {2, Integer.MAX_VALUE}, {Integer.MIN_VALUE, 2}};
        for (int[] arguments : bad) {
            due("begin of a bad value", x.begin(arguments[0], arguments[1]), BAD_VALUE);
        }
        due("begin(3, 5)", x.begin(3, 5), TOO_MANY);
        due("begin(4, 4)", x.begin(4, 4), TOO_MANY);
        due("begin(6, 7)", x.begin(6, 7), TOO_MANY);
        position(x, "2,2,2,2,2,2/0");
        due("undoable", x.count(UNDOABLE), 3);
        x.sow(4);
        due("moves", x.count(MOVES), 1);
        x.begin(3, 4);
        due("moves", x.count(MOVES), 0);
        due("kept", x.count(KEPT), 0);
        due("back()", x.back(), NOT_POSSIBLE);
        position(x, "4,4,4/0");
        beginAfterALoss();
    }

    private static void beginAfterALoss() {
        OneRowSeeds x = new OneRowSeeds();
        x.set(RELAY, 0);
        x.begin(2, 7);
        x.sow(0);
        due("how", x.count(HOW), LOST);
        x.begin(2, 7);
        due("how", x.count(HOW), GOES_ON);
        due("lives", x.count(LEFT), 0);
    }

    private static void load() {
        OneRowSeeds x = new OneRowSeeds();
        write(x, "1,0,14");
        due("15 seeds", x.load(), TOO_MANY);
        due("the pad stays", x.count(PAD), 6);
        due("nothing is recorded", x.count(UNDOABLE), 0);
        x.wipe();
        write(x, "1,0/14");
        due("15 seeds with the store", x.load(), TOO_MANY);
        x.wipe();
        write(x, "14");
        due("one pit", x.load(), BAD_VALUE);
        write(x, "/14");
        due("one pit with too many seeds", x.load(), BAD_VALUE);
        x.wipe();
        write(x, "0,0/0");
        due("no seeds", x.load(), BAD_VALUE);
        x.wipe();
        write(x, "0,0/");
        due("a store is due", x.load(), BAD_TEXT);
        due("the pad stays", x.count(PAD), 4);
        write(x, "14");
        due("all in the store", x.load(), 14);
        due("won at once", x.count(HOW), WON);
        due("the pad is empty", x.count(PAD), 0);
        due("nothing can be sown", x.count(CAN), 0);
        due("load()", x.load(), BAD_TEXT);
        write(x, "0,1,2,3,4,4");
        due("six pits", x.load(), 14);
        position(x, "0,1,2,3,4,4/0");
        write(x, "10,1/2");
        x.set(LIVES, 1);
        due("two pits", x.load(), 13);
        position(x, "10,1/2");
        due("lives", x.count(LEFT), 1);
        due("moves", x.count(MOVES), 0);
    }

    private static void loadExact() {
        int[][] exact = {
            {0, 0, 0, 0, 0, 0}, {1, 0, 0, 0, 0, 0}, {0, 2, 0, 0, 0, 0}, {1, 2, 0, 0, 0, 0}, {0, 1, 3, 0, 0, 0},
            {1, 1, 3, 0, 0, 0}, {0, 0, 2, 4, 0, 0}, {1, 0, 2, 4, 0, 0}, {0, 2, 2, 4, 0, 0}, {1, 2, 2, 4, 0, 0},
            {0, 1, 1, 3, 5, 0}, {1, 1, 1, 3, 5, 0}, {0, 0, 0, 2, 4, 6}, {1, 0, 0, 2, 4, 6}, {0, 2, 0, 2, 4, 6}};
        for (int pits = 2; pits <= 6; pits++) {
            for (int seeds = 1; seeds <= 14; seeds++) {
                loadOneExact(exact[seeds], pits, seeds);
            }
        }
        OneRowSeeds x = new OneRowSeeds();
        int[][] bad = {{1, 1}, {7, 1}, {2, 0}, {2, 15}, {-1, -1}, {1, 14}, {Integer.MIN_VALUE, 1}, {6, Integer.MAX_VALUE}};
        for (int[] arguments : bad) {
            due("loadExact of a bad value", x.loadExact(arguments[0], arguments[1]), BAD_VALUE);
        }
        due("nothing is recorded", x.count(UNDOABLE), 0);
        x.set(LIVES, 1);
        x.sow(2);
        x.loadExact(6, 14);
        due("lives", x.count(LEFT), 1);
        due("moves", x.count(MOVES), 0);
        due("kept", x.count(KEPT), 0);
        due("undoable", x.count(UNDOABLE), 3);
    }

    private static void loadOneExact(int[] fromStore, int pits, int seeds) {
        OneRowSeeds x = new OneRowSeeds();
        String call = "loadExact(" + pits + ", " + seeds + ")";
        int filled = 0;
        int needed = 0;
        for (int distance = 1; distance <= 6; distance++) {
            if (fromStore[distance - 1] > 0) {
                filled++;
                needed = distance;
            }
        }
        if (needed > pits) {
            due(call, x.loadExact(pits, seeds), NOT_POSSIBLE);
            position(x, "2,2,2,2/0");
            due("nothing is recorded", x.count(UNDOABLE), 0);
            return;
        }
        due(call, x.loadExact(pits, seeds), filled);
        due("pits", x.count(PITS), pits);
        for (int pit = 0; pit < pits; pit++) {
            due(call + " pit " + pit, x.pit(pit), fromStore[pits - 1 - pit]);
        }
        due(call + " store", x.count(STORE), 0);
    }

    private static void sow() {
        OneRowSeeds x = new OneRowSeeds();
        due("sow(-1)", x.sow(-1), NO_SUCH);
        due("sow(4)", x.sow(4), NO_SUCH);
        due("sow(MIN)", x.sow(Integer.MIN_VALUE), NO_SUCH);
        due("sow(2)", x.sow(2), 1);
        position(x, "2,2,0,3/1");
        due("sow(2) of an empty pit", x.sow(2), NOT_POSSIBLE);
        due("undoable", x.count(UNDOABLE), 1);
        due("sow(3), a relay", x.sow(3), 2);
        // The store, pit 0, pit 1, which had 2; then its 3: pits 2 and 3, the store.
        position(x, "3,0,1,1/3");
        sowLong();
        sowWrong();
        sowExactly();
    }

    private static void sowLong() {
        OneRowSeeds x = loaded("3,0", 1, 0, 1);
        due("round to itself, which is empty then", x.sow(0), 1);
        position(x, "1,1/1");
        due("a wrong move", x.count(LEFT), 0);
        x = loaded("6,0", 1, 0, 0);
        due("twice round to itself, which has one then: a relay", Math.min(x.ifSown(0, 1), 2), 2);
        x = loaded("6,0", 0, 0, 0);
        due("without a relay", x.sow(0), 2);
        position(x, "2,2/2");
        due("lost", x.count(HOW), LOST);
        x = loaded("14,0", 1, 0, 0);
        due("14 seeds in two pits", x.sow(0), 5);
        position(x, "4,5/5");
        x = loaded("13,0", 1, 0, 0);
        due("four laps", x.sow(0), 9);
        due("four laps", x.count(LAPS), 4);
    }

    private static void sowWrong() {
        OneRowSeeds x = loaded("1,0,2/0", 1, 0, 1);
        due("a wrong move", x.sow(0), 0);
        due("takes the life", x.count(LEFT), 0);
        due("goes on", x.count(HOW), GOES_ON);
        due("a wrong move", x.sow(1), 1);
        due("two laps", x.count(LAPS), 2);
        position(x, "1,1,0/1");
        due("lost", x.count(HOW), LOST);
        due("lives", x.count(LEFT), 0);
        due("nothing can be sown", x.count(CAN), 0);
        due("sow(0) when lost", x.sow(0), NOT_POSSIBLE);
        due("sow(3) when lost", x.sow(3), NO_SUCH);
        x = loaded("0,1/4", 1, 0, 0);
        due("the last seed", x.sow(1), 1);
        due("won", x.count(HOW), WON);
        due("sow(1) when won", x.sow(1), NOT_POSSIBLE);
        x = loaded("1,1", 0, 0, 0);
        due("no relay", x.sow(0), 0);
        due("lost", x.count(HOW), LOST);
    }

    private static void sowExactly() {
        OneRowSeeds x = loaded("1,2", 1, 1, 0);
        due("stuck", x.count(HOW), STUCK);
        due("sow(0)", x.sow(0), NOT_POSSIBLE);
        x = loaded("5,1", 1, 1, 0);
        due("round to the store", x.sow(0), 2);
        position(x, "1,3/2");
        due("one lap", x.count(LAPS), 1);
        x = loaded("1,1,2", 1, 1, 0);
        due("only the first lap counts", x.sow(0), NOT_POSSIBLE);
        x.set(EXACT, 0);
        due("though the second one comes into the store", x.ifSown(0, 0), 3);
        due("though the second one comes into the store", x.ifSown(0, 1), 2);
    }

    private static void back() {
        OneRowSeeds x = new OneRowSeeds();
        due("back() of no move", x.back(), NOT_POSSIBLE);
        due("undoable", x.count(UNDOABLE), 0);
        x.sow(2);
        x.sow(3);
        due("back() of a relay", x.back(), 3);
        position(x, "2,2,0,3/1");
        due("moves", x.count(MOVES), 1);
        due("kept", x.count(KEPT), 1);
        due("back()", x.back(), 2);
        position(x, "2,2,2,2/0");
        due("back()", x.back(), NOT_POSSIBLE);
        due("undoable", x.count(UNDOABLE), 4);
        x = loaded("1,0,2/0", 1, 0, 1);
        x.sow(0);
        x.sow(1);
        due("lost", x.count(HOW), LOST);
        due("back()", x.back(), 1);
        due("not over any more", x.count(HOW), GOES_ON);
        due("it took no life", x.count(LEFT), 0);
        position(x, "0,1,2/0");
        x.set(RELAY, 0);
        x.set(EXACT, 1);
        due("back()", x.back(), 0);
        due("the life comes back", x.count(LEFT), 1);
        position(x, "1,0,2/0");
        x = loaded("0,1", 1, 0, 0);
        x.sow(1);
        due("won", x.count(HOW), WON);
        due("back()", x.back(), 1);
        due("not over any more", x.count(HOW), GOES_ON);
        x = loaded("14,0", 0, 0, 0);
        x.sow(0);
        due("back() round the row", x.back(), 0);
        position(x, "14,0/0");
    }

    private static void play() {
        OneRowSeeds x = new OneRowSeeds();
        due("play()", x.play(), 6);
        due("won", x.count(HOW), WON);
        due("moves", x.count(MOVES), 6);
        due("the first one", x.move(5), 2);
        due("the last one", x.move(0), 3);
        due("one change", x.count(UNDOABLE), 1);
        due("play() when won", x.play(), 0);
        due("a change, too", x.count(UNDOABLE), 2);
        x = loaded("7,7", 0, 0, 0);
        int best = x.best(0);
        due("best", best, 6);
        x.play();
        due("the store has the best", x.count(STORE), 6);
        due("play() then", x.play(), 0);
        x = loaded("0,2", 1, 0, 0);
        due("a best play that loses", x.play(), 1);
        due("lost", x.count(HOW), LOST);
        due("play() when lost", x.play(), 0);
        x = loaded("1,2", 1, 1, 0);
        due("play() when stuck", x.play(), 0);
        x = loaded("1,1,1", 1, 1, 0);
        due("one right move", x.play(), 1);
        position(x, "1,1,0/1");
        due("stuck", x.count(HOW), STUCK);
        // Pit 1 could be sown first, but then pit 2 never comes into the store.
        x = loaded("0,2,1", 1, 1, 0);
        due("three right moves", x.play(), 3);
        due("the first one", x.move(2), 2);
        due("the second one", x.move(1), 1);
        playExactly();
    }

    private static void playExactly() {
        for (int seeds = 1; seeds <= 14; seeds++) {
            OneRowSeeds x = new OneRowSeeds();
            x.set(EXACT, 1);
            x.loadExact(6, seeds);
            due("as many moves as seeds", x.play(), seeds);
            due("all in the store", x.count(STORE), seeds);
            due("won", x.count(HOW), WON);
        }
    }

    private static void pit() {
        OneRowSeeds x = loaded("0,1,2,3,4/4", 1, 0, 0);
        for (int pit = 0; pit < 5; pit++) {
            due("pit(" + pit + ")", x.pit(pit), pit);
        }
        due("pit(5), the store", x.pit(5), NO_SUCH);
        due("pit(-1)", x.pit(-1), NO_SUCH);
        due("pit(MAX)", x.pit(Integer.MAX_VALUE), NO_SUCH);
        due("pit(MIN)", x.pit(Integer.MIN_VALUE), NO_SUCH);
    }

    private static void count() {
        OneRowSeeds x = loaded("1,0,2/3", 1, 0, 1);
        write(x, "ab");
        x.sow(2);
        // The store, pit 0, which had 1; then its 2: pit 1 and pit 2, which is empty by now.
        position(x, "0,1,1/4");
        int[] want = {3, 4, 6, GOES_ON, 0, 1, 1, 2, 6, 1, 0, 1, 2, 5};
        for (int what = 0; what < want.length; what++) {
            due("count(" + what + ")", x.count(what), want[what]);
        }
        for (int bad : new int[] {-1, 14, Integer.MIN_VALUE, Integer.MAX_VALUE}) {
            due("count(" + bad + ")", x.count(bad), BAD_VALUE);
        }
        due("nothing changes", x.count(UNDOABLE), 5);
        x.set(RELAY, 0);
        x.set(EXACT, 1);
        due("relay", x.count(9), 0);
        due("exact", x.count(10), 1);
        due("only the last pit", x.count(CAN), 4);
        x.sow(2);
        due("stuck", x.count(HOW), STUCK);
        due("nothing can be sown", x.count(CAN), 0);
        x.set(EXACT, 0);
        due("goes on", x.count(HOW), GOES_ON);
        x = loaded("3,2,1", 1, 1, 0);
        due("all can be sown", x.count(CAN), 7);
        x.sow(1);
        due("the first and the last", x.count(CAN), 1);
        x.set(EXACT, 0);
        due("the first and the last", x.count(CAN), 5);
        due("laps", x.count(LAPS), 1);
        x.back();
        due("no laps", x.count(LAPS), NONE);
        due("moves", x.count(MOVES), 0);
    }

    private static void move() {
        OneRowSeeds x = loaded("3,2,1", 1, 0, 0);
        due("move(0) of none", x.move(0), NONE);
        due("move(-1)", x.move(-1), NO_SUCH);
        due("move(MIN)", x.move(Integer.MIN_VALUE), NO_SUCH);
        x.sow(2);
        x.sow(1);
        x.sow(2);
        x.sow(0);
        int[] latestFirst = {0, 2, 1, 2};
        for (int ago = 0; ago < 4; ago++) {
            due("move(" + ago + ")", x.move(ago), latestFirst[ago]);
        }
        due("move(4)", x.move(4), NONE);
        due("move(19)", x.move(19), NONE);
        due("move(20)", x.move(20), NONE);
        due("move(MAX)", x.move(Integer.MAX_VALUE), NONE);
        x.back();
        due("move(0)", x.move(0), 2);
        due("move(3)", x.move(3), NONE);
    }

    private static void ifSown() {
        OneRowSeeds x = new OneRowSeeds();
        int[] want = {0, 2, 1, 1, LOST};
        for (int what = 0; what < 5; what++) {
            due("ifSown(0, " + what + ")", x.ifSown(0, what), want[what]);
        }
        int[] right = {4, 1, 1, 0, GOES_ON};
        for (int what = 0; what < 5; what++) {
            due("ifSown(2, " + what + ")", x.ifSown(2, what), right[what]);
        }
        due("nothing changes", x.count(UNDOABLE), 0);
        position(x, "2,2,2,2/0");
        due("ifSown(-1, 9)", x.ifSown(-1, 9), NO_SUCH);
        due("ifSown(4, 0)", x.ifSown(4, 0), NO_SUCH);
        due("ifSown(0, -1)", x.ifSown(0, -1), BAD_VALUE);
        due("ifSown(0, 5)", x.ifSown(0, 5), BAD_VALUE);
        x.sow(2);
        due("ifSown(2, 5) of an empty pit", x.ifSown(2, 5), BAD_VALUE);
        due("ifSown(2, 0) of an empty pit", x.ifSown(2, 0), NOT_POSSIBLE);
        x.sow(0);
        due("lost", x.count(HOW), LOST);
        due("ifSown(1, 0) when lost", x.ifSown(1, 0), NOT_POSSIBLE);
        x = loaded("0,1/2", 1, 0, 0);
        due("it wins", x.ifSown(1, 4), WON);
        x = loaded("1,0,2", 1, 0, 1);
        due("it is wrong", x.ifSown(0, 3), 1);
        due("and goes on", x.ifSown(0, 4), GOES_ON);
        x = loaded("0,2,0", 1, 1, 0);
        due("it goes on", x.ifSown(1, 4), GOES_ON);
        x = loaded("1,1,1", 1, 1, 0);
        due("it comes to be stuck", x.ifSown(2, 4), STUCK);
        due("it cannot be sown", x.ifSown(0, 4), NOT_POSSIBLE);
    }

    private static void ifSownHas() {
        OneRowSeeds x = new OneRowSeeds();
        x.sow(2);
        int[] want = {3, 0, 1, 1, 3};
        for (int place = 0; place <= 4; place++) {
            due("ifSownHas(3, " + place + ")", x.ifSownHas(3, place), want[place]);
        }
        position(x, "2,2,0,3/1");
        due("nothing changes", x.count(UNDOABLE), 1);
        due("ifSownHas(-1, 0)", x.ifSownHas(-1, 0), NO_SUCH);
        due("ifSownHas(4, 0)", x.ifSownHas(4, 0), NO_SUCH);
        due("ifSownHas(0, -1)", x.ifSownHas(0, -1), NO_SUCH);
        due("ifSownHas(0, 5)", x.ifSownHas(0, 5), NO_SUCH);
        due("ifSownHas(2, 5) of an empty pit", x.ifSownHas(2, 5), NO_SUCH);
        due("ifSownHas(2, 0) of an empty pit", x.ifSownHas(2, 0), NOT_POSSIBLE);
        x = loaded("0,0/3", 1, 0, 0);
        due("ifSownHas(0, 0) when won", x.ifSownHas(0, 0), NOT_POSSIBLE);
    }

    private static void bests(OneRowSeeds x, int store, int first, int positions, int fewest) {
        due("best(0)", x.best(0), store);
        due("best(1)", x.best(1), first);
        due("best(2)", x.best(2), positions);
        due("best(3)", x.best(3), fewest);
    }

    private static void best() {
        OneRowSeeds x = new OneRowSeeds();
        bests(x, 8, 2, 11, 6);
        due("best(-1)", x.best(-1), BAD_VALUE);
        due("best(4)", x.best(4), BAD_VALUE);
        due("nothing changes", x.count(UNDOABLE), 0);
        position(x, "2,2,2,2/0");
        x.begin(6, 2);
        due("best(0)", x.best(0), 10);
        due("best(3)", x.best(3), NONE);
        bests(loaded("0,1", 1, 0, 0), 1, 1, 2, 1);
        bests(loaded("0,0/5", 1, 0, 1), 5, NONE, 1, 0);
        bests(loaded("1,2", 1, 1, 0), 0, NONE, 1, NONE);
        // Pit 0 comes into the empty pit 1 and loses; the store has its best already.
        bests(loaded("1,0", 1, 0, 0), 0, NONE, 1, NONE);
        // With a life it may go on: 1,0 then 0,1 without the life, then all in the store.
        bests(loaded("1,0", 1, 0, 1), 1, 0, 3, 2);
        // The last move of the best play loses, and brings a seed into the store.
        bests(loaded("0,2", 1, 0, 0), 1, 1, 1, NONE);
        x = loaded("0,2/3", 1, 0, 0);
        x.sow(1);
        due("lost", x.count(HOW), LOST);
        bests(x, 4, NONE, 0, NONE);
        due("the most positions that can come", loaded("6,3,1,2,1,1", 1, 0, 1).best(2), 2011);
        // 1,0,1 and 1,0,0/1 with the life; 0,1,1 and 0,1,0/1 (in two ways) without it.
        due("best(2)", loaded("1,0,1", 0, 0, 1).best(2), 4);
    }

    private static void exact() {
        OneRowSeeds x = new OneRowSeeds();
        int[][] want = {{0, 1, 0}, {0, 6, 0}, {1, 1, 1}, {2, 1, 0}, {2, 2, 2}, {3, 1, 1}, {3, 2, 2}, {4, 1, 0}, {4, 2, 1},
            {4, 3, 3}, {6, 3, 2}, {6, 4, 4}, {10, 5, 5}, {11, 6, 0}, {12, 6, 6}, {12, 5, 4}, {14, 2, 2}, {14, 6, 6}};
        for (int[] row : want) {
            due("exact(" + row[0] + ", " + row[1] + ")", x.exact(row[0], row[1]), row[2]);
        }
        int[][] bad = {{-1, 1}, {15, 1}, {0, 0}, {0, 7}, {14, -1}, {Integer.MAX_VALUE, 1}, {1, Integer.MIN_VALUE}};
        for (int[] arguments : bad) {
            due("exact of a bad value", x.exact(arguments[0], arguments[1]), BAD_VALUE);
        }
        due("nothing changes", x.count(UNDOABLE), 0);
    }

    private static void put() {
        OneRowSeeds x = new OneRowSeeds();
        due("no character", x.put(0), BAD_VALUE);
        due("code 32", x.put(32), BAD_VALUE);
        due("code 127", x.put(127), BAD_VALUE);
        due("code 255", x.put(255), BAD_VALUE);
        due("code 33", x.put(33), 1);
        due("code 126", x.put(126), 2);
        due("no last character", x.put(code("1") << 8), BAD_VALUE);
        due("a gap", x.put(code("1") << 16 | code("1")), BAD_VALUE);
        due("a bit above a gap", x.put(1L << 63 | code("1")), BAD_VALUE);
        due("all bits", x.put(-1), BAD_VALUE);
        due("the first of eight is above 126", x.put(code("1234567") | 200L << 56), BAD_VALUE);
        due("the first of eight is below 33", x.put(code("1234567") | 1L << 56), BAD_VALUE);
        due("nothing is appended", x.count(PAD), 2);
        due("it is no change", x.count(UNDOABLE), 0);
        due("wipe", x.wipe(), 2);
        due("eight characters", x.put(code("10,2,3/4")), 8);
        due("their order", x.load(), TOO_MANY);
        x.wipe();
        due("eight characters", x.put(code("10,0,1/2")), 8);
        due("load", x.load(), 13);
        position(x, "10,0,1/2");
        x.put(code("4,"));
        x.put(code("5"));
        due("load", x.load(), 9);
        position(x, "4,5/0");
        for (int i = 1; i <= 5; i++) {
            due("eight more", x.put(code("12345678")), 8 * i);
        }
        due("41", x.put(code("1")), TOO_MANY);
        due("a bad code counts first", x.put(32), BAD_VALUE);
        due("length", x.count(PAD), 40);
        x.wipe();
        write(x, "123456789012345678901234567890123");
        due("33 and 8", x.put(code("12345678")), TOO_MANY);
        due("33 and 7", x.put(code("1234567")), 40);
        due("fault", x.fault(), 2);
    }

    private static void wipe() {
        OneRowSeeds x = new OneRowSeeds();
        due("wipe() of an empty pad", x.wipe(), 0);
        write(x, "1,2,3");
        due("wipe()", x.wipe(), 5);
        due("wipe()", x.wipe(), 0);
        due("length", x.count(PAD), 0);
        due("it is no change", x.count(UNDOABLE), 0);
        due("fault", x.fault(), 0);
        write(x, "4,5");
        due("load()", x.load(), 9);
        position(x, "4,5/0");
    }

    private static void fault() {
        Object[][] want = {
            {"", 0}, {"0", NONE}, {"14", NONE}, {"15", 1}, {"19", 1}, {"20", 1}, {"10", NONE}, {"100", 2}, {"140", 2},
            {"00", 1}, {"01", 1}, {",", 0}, {"/", 0}, {"a", 0}, {"-1", 0}, {"1,", 2}, {"1/", 2}, {"1,,", 2}, {"1,/", 2},
            {"1//", 2}, {"1/,", 2}, {"1/2", NONE}, {"1/2,", 3}, {"1/2/", 3}, {"1/15", 3}, {"1/14", NONE}, {"1/141", 4},
            {"1,2,3,4,5,6", NONE}, {"1,2,3,4,5,6,", 11}, {"1,2,3,4,5,6,7", 11}, {"1,2,3,4,5,6/", 12},
            {"1,2,3,4,5,6/7", NONE}, {"14,14,14,14,14,14/14", NONE}, {"14,14,14,14,14,14/14/", 20}, {"1,2x", 3},
            {"1:", 1}, {"1.2", 1}, {"1,05", 3}, {"1,2/05", 5}, {"9,9", NONE}, {"0,0/0", NONE}, {"2,13,14,15", 9}};
        for (Object[] row : want) {
            OneRowSeeds x = new OneRowSeeds();
            write(x, (String) row[0]);
            due("fault() of '" + row[0] + "'", x.fault(), (Integer) row[1]);
            due("fault() again", x.fault(), (Integer) row[1]);
            due("the pad stays", x.count(PAD), ((String) row[0]).length());
            due("nothing changes", x.count(UNDOABLE), 0);
        }
    }

    private static void undo() {
        OneRowSeeds x = new OneRowSeeds();
        due("undo() of nothing", x.undo(), NOT_POSSIBLE);
        for (int i = 0; i < 8; i++) {
            x.set(LIVES, 1 - i % 2);
            due("at most 6", x.count(UNDOABLE), Math.min(i + 1, 6));
        }
        for (int left = 5; left >= 0; left--) {
            due("undo()", x.undo(), left);
            due("lives as they were", x.count(11), left % 2 == 0 ? 0 : 1);
        }
        due("undo() of no more", x.undo(), NOT_POSSIBLE);
        undoEachChange();
        undoKeepsPadAndSlots();
        undoBringsMovesBack();
    }

    // A relay of pit 3 behind a move of pit 2; another round's moves come over them.
    private static OneRowSeeds twoMoves() {
        OneRowSeeds x = new OneRowSeeds();
        x.sow(2);
        x.sow(3);
        return x;
    }

    private static void otherMoves(OneRowSeeds x) {
        x.loadExact(2, 3);
        x.sow(1);
        x.sow(0);
        due("move(0)", x.move(0), 0);
        due("laps", x.count(LAPS), 1);
    }

    private static void theTwoMoves(OneRowSeeds x) {
        due("moves", x.count(MOVES), 2);
        due("kept", x.count(KEPT), 2);
        due("laps", x.count(LAPS), 2);
        due("move(0)", x.move(0), 3);
        due("move(1)", x.move(1), 2);
        due("back()", x.back(), 3);
        position(x, "2,2,0,3/1");
        due("back()", x.back(), 2);
        position(x, "2,2,2,2/0");
    }

    private static void undoBringsMovesBack() {
        OneRowSeeds x = twoMoves();
        otherMoves(x);
        x.undo();
        x.undo();
        due("undo()", x.undo(), 2);
        theTwoMoves(x);
    }

    private static void undoEachChange() {
        OneRowSeeds x = new OneRowSeeds();
        x.sow(2);
        x.sow(3);
        due("undo()", x.undo(), 1);
        position(x, "2,2,0,3/1");
        due("moves", x.count(MOVES), 1);
        due("move(0)", x.move(0), 2);
        x.back();
        due("undo() of back()", x.undo(), 1);
        due("move(0)", x.move(0), 2);
        due("laps", x.count(LAPS), 1);
        due("back()", x.back(), 2);
        position(x, "2,2,2,2/0");
        x.undo();
        x.begin(5, 1);
        x.undo();
        position(x, "2,2,0,3/1");
        x.loadExact(3, 5);
        x.undo();
        position(x, "2,2,0,3/1");
        x.play();
        x.undo();
        position(x, "2,2,0,3/1");
        due("moves", x.count(MOVES), 1);
        x.sow(0);
        due("lost", x.count(HOW), LOST);
        x.undo();
        due("not lost", x.count(HOW), GOES_ON);
        x.set(LIVES, 1);
        x.begin(2, 1);
        x.undo();
        due("lives", x.count(LEFT), 0);
        due("setting", x.count(11), 1);
        x.set(RELAY, 1);
        due("a change, though nothing is different", x.count(UNDOABLE), 3);
        x.sow(2);
        due("an error is no change", x.count(UNDOABLE), 3);
    }

    private static void undoKeepsPadAndSlots() {
        OneRowSeeds x = new OneRowSeeds();
        write(x, "3,1");
        x.load();
        due("undo() of load()", x.undo(), 0);
        due("the pad stays empty", x.count(PAD), 0);
        position(x, "2,2,2,2/0");
        x.sow(2);
        write(x, "9");
        x.save(0);
        x.undo();
        due("the pad stays", x.count(PAD), 1);
        due("the slot stays", x.restore(0), 1);
        position(x, "2,2,0,3/1");
        due("undo() of restore()", x.undo(), 0);
        position(x, "2,2,2,2/0");
    }

    private static void save() {
        OneRowSeeds x = new OneRowSeeds();
        due("save(-1)", x.save(-1), BAD_VALUE);
        due("save(2)", x.save(2), BAD_VALUE);
        due("save(MAX)", x.save(Integer.MAX_VALUE), BAD_VALUE);
        due("save(0)", x.save(0), 0);
        x.sow(2);
        due("save(1)", x.save(1), 1);
        due("it is no change", x.count(UNDOABLE), 1);
        x.sow(3);
        due("restore(0)", x.restore(0), 0);
        position(x, "2,2,2,2/0");
        due("restore(1)", x.restore(1), 1);
        position(x, "2,2,0,3/1");
        x.sow(3);
        due("save(1) over it", x.save(1), 3);
        x.begin(2, 1);
        due("restore(1)", x.restore(1), 3);
        position(x, "3,0,1,1/3");
    }

    private static void restore() {
        OneRowSeeds x = new OneRowSeeds();
        due("restore(-1)", x.restore(-1), BAD_VALUE);
        due("restore(2)", x.restore(2), BAD_VALUE);
        due("restore(0) of nothing", x.restore(0), NOT_POSSIBLE);
        due("no change", x.count(UNDOABLE), 0);
        x.set(LIVES, 1);
        x.set(RELAY, 0);
        write(x, "1,0,2/3");
        x.load();
        x.sow(0);
        x.save(1);
        due("restore(0) of nothing", x.restore(0), NOT_POSSIBLE);
        write(x, "abc");
        x.set(EXACT, 1);
        x.set(RELAY, 1);
        x.begin(6, 1);
        due("undoable", x.count(UNDOABLE), 6);
        due("restore(1)", x.restore(1), 3);
        position(x, "0,1,2/3");
        int[] want = {3, 3, 6, GOES_ON, 0, 1, 1, 1, 6, 0, 0, 1, 3, 6};
        for (int what = 0; what < want.length; what++) {
            due("count(" + what + ")", x.count(what), want[what]);
        }
        due("move(0)", x.move(0), 0);
        due("back()", x.back(), 0);
        position(x, "1,0,2/3");
        due("the life comes back", x.count(LEFT), 1);
        restoreBringsMovesBack();
        due("the slot keeps it", x.restore(1), 3);
        position(x, "0,1,2/3");
        x.undo();
        position(x, "1,0,2/3");
        due("no move", x.count(MOVES), 0);
    }

    private static void restoreBringsMovesBack() {
        OneRowSeeds x = twoMoves();
        x.save(0);
        otherMoves(x);
        due("restore(0)", x.restore(0), 3);
        theTwoMoves(x);
        otherMoves(x);
        due("restore(0)", x.restore(0), 3);
        theTwoMoves(x);
    }

    private interface Test {
        void run();
    }

    private static void check(int number, String name, Test test) {
        promise = "promise " + number + ", " + name;
        test.run();
    }

    public static void main(String[] args) {
        check(1, "a new object", PromisesTest::newObject);
        check(2, "set", PromisesTest::set);
        check(3, "begin", PromisesTest::begin);
        check(4, "load", PromisesTest::load);
        check(5, "loadExact", PromisesTest::loadExact);
        check(6, "sow", PromisesTest::sow);
        check(7, "back", PromisesTest::back);
        check(8, "play", PromisesTest::play);
        check(9, "pit", PromisesTest::pit);
        check(10, "count", PromisesTest::count);
        check(11, "move", PromisesTest::move);
        check(12, "ifSown", PromisesTest::ifSown);
        check(13, "ifSownHas", PromisesTest::ifSownHas);
        check(14, "best", PromisesTest::best);
        check(15, "exact", PromisesTest::exact);
        check(16, "put", PromisesTest::put);
        check(17, "wipe", PromisesTest::wipe);
        check(18, "fault", PromisesTest::fault);
        check(19, "undo", PromisesTest::undo);
        check(20, "save", PromisesTest::save);
        check(21, "restore", PromisesTest::restore);
        for (String fault : faults) {
            System.out.println(fault);
        }
        System.out.println(faults.isEmpty() ? "all promises hold" : faults.size() + " answers are not as due");
        if (!faults.isEmpty()) {
            System.exit(1);
        }
    }
}
