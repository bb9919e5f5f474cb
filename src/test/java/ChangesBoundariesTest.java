/** Promises 1 to 8: a test for each sentence that names a boundary. */
public final class ChangesBoundariesTest extends Boundaries {
    private static final int[] NO_LENGTHS = {MIN, -1, 0, 1, 7, 8, MAX};

    // ---- promise 1: a new object

    @Says("Creates a row of 4 pits with 2 seeds each, at the beginning of a round.")
    static void p01_new_4Pits() {
        OneRowSeeds x = new OneRowSeeds();
        due("pits", x.count(PITS), 4);
        due("pit(3)", x.pit(3), 2);
        due("pit(4)", x.pit(4), NO_SUCH);
    }

    @Says("A pit has some seeds (2 each at first), the store, too (0 at first)")
    static void p01_new_2SeedsEachAndAnEmptyStore() {
        position(new OneRowSeeds(), "2,2,2,2/0");
        due("all seeds", new OneRowSeeds().count(ALL), 8);
    }

    @Says("Creates a row of 4 pits with 2 seeds each, at the beginning of a round.")
    static void p01_new_atTheBeginningOfARound() {
        OneRowSeeds x = new OneRowSeeds();
        due("how", x.count(HOW), GOES_ON);
        due("moves", x.count(MOVES), 0);
        due("kept", x.count(KEPT), 0);
        due("laps", x.count(LAPS), NONE);
        due("move(0)", x.move(0), NONE);
        due("back()", x.back(), NOT_POSSIBLE);
    }

    @Says("(In parentheses: range; first value.) RELAY (0 or 1; 1). EXACT (0 or 1; 0). LIVES (0 or 1; 0).")
    static void p01_new_firstValuesOfTheSettings() {
        OneRowSeeds x = new OneRowSeeds();
        due("RELAY", x.count(IS_RELAY), 1);
        due("EXACT", x.count(IS_EXACT), 0);
        due("LIVES", x.count(IS_LIVES), 0);
        due("two laps", x.ifSown(0, 1), 2);
        due("all can be sown", x.count(CAN), 15);
    }

    @Says("A round has lives: LIVES as it was when the round began (0 at first).")
    static void p01_new_noLife() {
        OneRowSeeds x = new OneRowSeeds();
        due("lives", x.count(LEFT), 0);
        x.sow(0);
        due("the first wrong move loses", x.count(HOW), LOST);
    }

    @Says("if there is none and the text ends too early (also if it is empty), it is the length of the text.")
    static void p01_new_emptyPad() {
        OneRowSeeds x = new OneRowSeeds();
        due("length", x.count(PAD), 0);
        due("fault()", x.fault(), 0);
        due("wipe()", x.wipe(), 0);
        due("load()", x.load(), BAD_TEXT);
    }

    @Says("Returns how many changes can be undone then; NOT_POSSIBLE if there is none.")
    static void p01_new_nothingToUndo() {
        OneRowSeeds x = new OneRowSeeds();
        due("undoable", x.count(UNDOABLE), 0);
        due("undo()", x.undo(), NOT_POSSIBLE);
    }

    @Says("NOT_POSSIBLE if nothing was saved in it.")
    static void p01_new_emptySlots() {
        due("restore(0)", new OneRowSeeds().restore(0), NOT_POSSIBLE);
        due("restore(1)", new OneRowSeeds().restore(1), NOT_POSSIBLE);
    }

    @Says("Creates a row of 4 pits with 2 seeds each, at the beginning of a round.")
    static void p01_new_objectsShareNothing() {
        OneRowSeeds first = busy(true);
        OneRowSeeds second = new OneRowSeeds();
        position(second, "2,2,2,2/0");
        due("RELAY", second.count(IS_RELAY), 1);
        due("LIVES", second.count(IS_LIVES), 0);
        due("kept", second.count(KEPT), 0);
        due("the pad's length", second.count(PAD), 0);
        due("undo()", second.undo(), NOT_POSSIBLE);
        due("restore(0)", second.restore(0), NOT_POSSIBLE);
        due("restore(1)", second.restore(1), NOT_POSSIBLE);
        second.begin(2, 1);
        second.save(0);
        second.wipe();
        alike("another object", first, busy(true));
        position(second, "1,1/0");
        due("undoable", second.count(UNDOABLE), 1);
    }

    @Says("An object is used for at most 512 calls after it has been made")
    static void p01_new_512Calls() {
        OneRowSeeds x = new OneRowSeeds();
        for (int i = 0; i < 255; i++) {
            x.sow(2);
            x.back();
        }
        due("call 511", x.sow(2), 1);
        due("call 512", x.count(MOVES), 1);
    }

    // ---- promise 2: set

    private static void refusesSetting(int setting) {
        for (int value : new int[] {MIN, -1, 0, 1, 2, MAX}) {
            due("set(" + setting + ", " + value + ")", new OneRowSeeds().set(setting, value), BAD_VALUE);
        }
    }

    private static void refusesValue(int value) {
        for (int setting = RELAY; setting <= LIVES; setting++) {
            due("set(" + setting + ", " + value + ")", new OneRowSeeds().set(setting, value), BAD_VALUE);
        }
    }

    @Says("BAD_VALUE if there is no such setting, or value is neither 0 nor 1.")
    static void p02_set_settingTooSmall() {
        refusesSetting(-1);
        refusesSetting(MIN);
    }

    @Says("BAD_VALUE if there is no such setting, or value is neither 0 nor 1.")
    static void p02_set_settingTooLarge() {
        refusesSetting(3);
        refusesSetting(4);
        refusesSetting(MAX);
    }

    @Says("BAD_VALUE if there is no such setting, or value is neither 0 nor 1.")
    static void p02_set_valueTooSmall() {
        refusesValue(-1);
        refusesValue(MIN);
    }

    @Says("BAD_VALUE if there is no such setting, or value is neither 0 nor 1.")
    static void p02_set_valueTooLarge() {
        refusesValue(2);
        refusesValue(MAX);
    }

    @Says("A call that returns an error changes nothing.")
    static void p02_set_refusedChangesNothing() {
        busyChangesNothing("set(0, 2)", x -> x.set(RELAY, 2), BAD_VALUE);
        busyChangesNothing("set(1, -1)", x -> x.set(EXACT, -1), BAD_VALUE);
        busyChangesNothing("set(2, 2)", x -> x.set(LIVES, 2), BAD_VALUE);
        busyChangesNothing("set(-1, 0)", x -> x.set(-1, 0), BAD_VALUE);
        busyChangesNothing("set(3, 1)", x -> x.set(3, 1), BAD_VALUE);
    }

    private static void twoValues(int setting, int first) {
        OneRowSeeds x = new OneRowSeeds();
        due("set", x.set(setting, 1 - first), first);
        due("count", x.count(IS_RELAY + setting), 1 - first);
        due("set to the same", x.set(setting, 1 - first), 1 - first);
        due("count", x.count(IS_RELAY + setting), 1 - first);
        due("set back", x.set(setting, first), 1 - first);
        due("count", x.count(IS_RELAY + setting), first);
        for (int other = RELAY; other <= LIVES; other++) {
            due("the setting " + other, x.count(IS_RELAY + other), other == RELAY ? 1 : 0);
        }
    }

    @Says("Returns the previous value")
    static void p02_set_smallestSettingIsRelay() {
        twoValues(RELAY, 1);
    }

    @Says("Returns the previous value")
    static void p02_set_settingInTheMiddleIsExact() {
        twoValues(EXACT, 0);
    }

    @Says("Returns the previous value")
    static void p02_set_largestSettingIsLives() {
        twoValues(LIVES, 0);
    }

    @Says("Changes a setting; LIVES counts for rounds that begin later.")
    static void p02_set_livesGiveTheRunningRoundNoLife() {
        OneRowSeeds x = new OneRowSeeds();
        x.set(LIVES, 1);
        due("lives", x.count(LEFT), 0);
        due("behind a wrong move", x.ifSown(0, 4), LOST);
        x.sow(0);
        due("how", x.count(HOW), LOST);
    }

    @Says("Changes a setting; LIVES counts for rounds that begin later.")
    static void p02_set_livesTakeNoLifeOfTheRunningRound() {
        OneRowSeeds x = new OneRowSeeds();
        x.set(LIVES, 1);
        x.begin(4, 2);
        x.set(LIVES, 0);
        due("lives", x.count(LEFT), 1);
        due("behind a wrong move", x.ifSown(0, 4), GOES_ON);
        x.sow(0);
        due("how", x.count(HOW), GOES_ON);
        due("lives", x.count(LEFT), 0);
    }

    @Says("Changes a setting; LIVES counts for rounds that begin later.")
    static void p02_set_livesCountForEachRoundThatBeginsLater() {
        OneRowSeeds x = new OneRowSeeds();
        for (int lives = 1; lives >= 0; lives--) {
            x.set(LIVES, lives);
            x.begin(3, 2);
            due("lives behind begin()", x.count(LEFT), lives);
            x.begin(3, 2);
            due("lives behind one more", x.count(LEFT), lives);
        }
        for (int lives = 1; lives >= 0; lives--) {
            x.set(LIVES, lives);
            x.loadExact(3, 2);
            due("lives behind loadExact()", x.count(LEFT), lives);
        }
        for (int lives = 1; lives >= 0; lives--) {
            x.set(LIVES, lives);
            write(x, "1,2").load();
            due("lives behind load()", x.count(LEFT), lives);
        }
    }

    @Says("into a pit that had seeds ahead of that, if RELAY is 1: this pit is sown")
    static void p02_set_relayCountsAtOnce() {
        OneRowSeeds x = new OneRowSeeds();
        due("laps", x.ifSown(0, 1), 2);
        x.set(RELAY, 0);
        due("laps", x.ifSown(0, 1), 1);
        due("its last seed", x.ifSown(0, 0), 2);
        x.set(RELAY, 1);
        due("laps", x.ifSown(0, 1), 2);
    }

    @Says("If EXACT is 1, a pit can only be sown if the last seed of its first lap comes into the store.")
    static void p02_set_exactCountsAtOnce() {
        OneRowSeeds x = new OneRowSeeds();
        x.set(EXACT, 1);
        due("can be sown", x.count(CAN), 4);
        due("sow(0)", x.sow(0), NOT_POSSIBLE);
        x.set(EXACT, 0);
        due("can be sown", x.count(CAN), 15);
        due("sow(0)", x.sow(0), 1);
    }

    @Says("This is a change.")
    static void p02_set_isAChange() {
        isAChange("set(0, 0)", () -> busy(false), x -> x.set(RELAY, 0));
        isAChange("set(1, 1)", () -> busy(false), x -> x.set(EXACT, 1));
        isAChange("set(2, 0)", () -> busy(false), x -> x.set(LIVES, 0));
        isAChange("set(2, 0), when six can be undone", () -> busy(true), x -> x.set(LIVES, 0));
    }

    @Says("records the state before it (also if nothing is different then)")
    static void p02_set_sameValueIsAChangeToo() {
        isAChange("set(0, 1)", OneRowSeeds::new, x -> x.set(RELAY, 1));
        isAChange("set(1, 0)", OneRowSeeds::new, x -> x.set(EXACT, 0));
        isAChange("set(2, 0)", OneRowSeeds::new, x -> x.set(LIVES, 0));
    }

    // ---- promise 3: begin

    @Says("`pits`: 2 to 6")
    static void p03_begin_pitsTooFewOrTooMany() {
        for (int pits : NO_LENGTHS) {
            due("begin(" + pits + ", 1)", new OneRowSeeds().begin(pits, 1), BAD_VALUE);
            due("begin(" + pits + ", 2)", new OneRowSeeds().begin(pits, 2), BAD_VALUE);
        }
    }

    @Says("`pits`: 2 to 6")
    static void p03_begin_fewestPits() {
        OneRowSeeds x = new OneRowSeeds();
        due("begin(2, 1)", x.begin(2, 1), 2);
        position(x, "1,1/0");
        due("pit(2)", x.pit(2), NO_SUCH);
    }

    @Says("`pits`: 2 to 6")
    static void p03_begin_mostPits() {
        OneRowSeeds x = new OneRowSeeds();
        due("begin(6, 1)", x.begin(6, 1), 6);
        position(x, "1,1,1,1,1,1/0");
        due("pit(5)", x.pit(5), 1);
    }

    @Says("`seeds`: 1 to 7")
    static void p03_begin_seedsTooFewOrTooMany() {
        for (int seeds : new int[] {MIN, -1, 0, 8, 9, MAX}) {
            due("begin(2, " + seeds + ")", new OneRowSeeds().begin(2, seeds), BAD_VALUE);
        }
    }

    @Says("`seeds`: 1 to 7")
    static void p03_begin_fewestAndMostSeedsInAPit() {
        OneRowSeeds x = new OneRowSeeds();
        due("begin(2, 7)", x.begin(2, 7), 14);
        position(x, "7,7/0");
        due("begin(3, 1)", x.begin(3, 1), 3);
        position(x, "1,1,1/0");
    }

    @Says("Returns how many seeds there are; BAD_VALUE if an argument is out of range; "
            + "TOO_MANY if there would be more than 14.")
    static void p03_begin_allFourteenAndMore() {
        for (int pits = 2; pits <= 6; pits++) {
            for (int seeds = 1; seeds <= 7; seeds++) {
                int all = pits * seeds;
                OneRowSeeds x = new OneRowSeeds();
                due("begin(" + pits + ", " + seeds + ")", x.begin(pits, seeds), all > 14 ? TOO_MANY : all);
                due("all seeds", x.count(ALL), all > 14 ? 8 : all);
            }
        }
    }

    @Says("it names its errors in the order in which they are checked, and the first one that applies is returned.")
    static void p03_begin_badValueComesAheadOfTooMany() {
        due("begin(7, 3)", new OneRowSeeds().begin(7, 3), BAD_VALUE);
        due("begin(7, 7)", new OneRowSeeds().begin(7, 7), BAD_VALUE);
        due("begin(2, 8)", new OneRowSeeds().begin(2, 8), BAD_VALUE);
        due("begin(6, 8)", new OneRowSeeds().begin(6, 8), BAD_VALUE);
        due("begin(6, MAX)", new OneRowSeeds().begin(6, MAX), BAD_VALUE);
    }

    @Says("A call that returns an error changes nothing.")
    static void p03_begin_refusedChangesNothing() {
        busyChangesNothing("begin(1, 1)", x -> x.begin(1, 1), BAD_VALUE);
        busyChangesNothing("begin(7, 1)", x -> x.begin(7, 1), BAD_VALUE);
        busyChangesNothing("begin(2, 0)", x -> x.begin(2, 0), BAD_VALUE);
        busyChangesNothing("begin(2, 8)", x -> x.begin(2, 8), BAD_VALUE);
        busyChangesNothing("begin(3, 5)", x -> x.begin(3, 5), TOO_MANY);
    }

    @Says("Begins a round, with as many seeds in each pit, and none in the store.")
    static void p03_begin_emptiesTheStore() {
        OneRowSeeds x = loaded("1,2,3/4", 1, 0, 0);
        due("begin(3, 2)", x.begin(3, 2), 6);
        position(x, "2,2,2/0");
        x = loaded("1,2,3,1,1,1/4", 1, 0, 0);
        due("begin(2, 2)", x.begin(2, 2), 4);
        position(x, "2,2/0");
        due("begin(6, 2)", x.begin(6, 2), 12);
        position(x, "2,2,2,2,2,2/0");
    }

    @Says("Begins a round, with as many seeds in each pit, and none in the store.")
    static void p03_begin_afterALostAWonAndAStuckRound() {
        for (OneRowSeeds x : new OneRowSeeds[] {lost(), won(), stuck()}) {
            x.set(EXACT, 0);
            x.begin(4, 2);
            due("how", x.count(HOW), GOES_ON);
            due("moves", x.count(MOVES), 0);
            due("kept", x.count(KEPT), 0);
            due("laps", x.count(LAPS), NONE);
            due("back()", x.back(), NOT_POSSIBLE);
            due("can be sown", x.count(CAN), 15);
        }
    }

    @Says("A round has lives: LIVES as it was when the round began (0 at first).")
    static void p03_begin_givesALifeBack() {
        OneRowSeeds x = loaded("1,0,2", 1, 0, 1);
        x.sow(0);
        due("lives", x.count(LEFT), 0);
        x.begin(3, 1);
        due("lives", x.count(LEFT), 1);
        x.begin(3, 1);
        due("not one more", x.count(LEFT), 1);
    }

    @Says("This is a change.")
    static void p03_begin_isAChange() {
        isAChange("begin(6, 2)", () -> busy(false), x -> x.begin(6, 2));
        isAChange("begin(2, 1)", () -> busy(true), x -> x.begin(2, 1));
        isAChange("begin(4, 2) of a new object", OneRowSeeds::new, x -> x.begin(4, 2));
    }

    // ---- promise 4: load

    private static void loads(String text, int answer) {
        OneRowSeeds x = written(text);
        due("load() of '" + text + "'", x.load(), answer);
        due("the length of the pad then", x.count(PAD), answer < 0 ? text.length() : 0);
        due("changes", x.count(UNDOABLE), answer < 0 ? 0 : 1);
        due("all seeds", x.count(ALL), answer < 0 ? 8 : answer);
    }

    @Says("BAD_TEXT if the pad has a fault")
    static void p04_load_emptyPad() {
        loads("", BAD_TEXT);
    }

    @Says("BAD_TEXT if the pad has a fault")
    static void p04_load_textThatEndsTooEarly() {
        loads("1,", BAD_TEXT);
        loads("1,2,", BAD_TEXT);
        loads("1,2/", BAD_TEXT);
    }

    @Says("BAD_TEXT if the pad has a fault")
    static void p04_load_characterThatCannotStandThere() {
        loads("1,2x", BAD_TEXT);
        loads("x1,2", BAD_TEXT);
        loads("1,02", BAD_TEXT);
        loads("1,15", BAD_TEXT);
        loads("1,2/3/4", BAD_TEXT);
        loads("1,2,3,4,1,1,1", BAD_TEXT);
    }

    @Says("BAD_VALUE if there is only one pit, or there are no seeds")
    static void p04_load_onlyOnePit() {
        loads("1", BAD_VALUE);
        loads("14", BAD_VALUE);
        loads("1/3", BAD_VALUE);
        loads("0/5", BAD_VALUE);
    }

    @Says("There is a row of 2 to 6 pits (4 at first)")
    static void p04_load_fewestAndMostPits() {
        OneRowSeeds x = written("3,4");
        due("two pits", x.load(), 7);
        position(x, "3,4/0");
        due("pits", x.count(PITS), 2);
        write(x, "1,0,2,0,3,4/2");
        due("six pits", x.load(), 12);
        position(x, "1,0,2,0,3,4/2");
        due("pits", x.count(PITS), 6);
    }

    @Says("BAD_VALUE if there is only one pit, or there are no seeds")
    static void p04_load_noSeeds() {
        loads("0,0", BAD_VALUE);
        loads("0,0/0", BAD_VALUE);
        loads("0,0,0,0,0,0/0", BAD_VALUE);
        loads("0", BAD_VALUE);
    }

    @Says("all together are 1 to 14, and stay as many.")
    static void p04_load_oneSeed() {
        loads("1,0", 1);
        loads("0,0,0,0,0,1", 1);
        loads("0,0/1", 1);
    }

    @Says("all together are 1 to 14, and stay as many.")
    static void p04_load_fourteenSeeds() {
        loads("14,0", 14);
        loads("0,14/0", 14);
        loads("0,0/14", 14);
        loads("7,6/1", 14);
        loads("2,2,2,2,2,2/2", 14);
    }

    @Says("TOO_MANY if there are more than 14.")
    static void p04_load_fifteenSeedsAndMore() {
        loads("14,1", TOO_MANY);
        loads("8,7", TOO_MANY);
        loads("2,2,2,2,2,5", TOO_MANY);
        loads("14,14,14,14,14,14/14", TOO_MANY);
        // Sums that have a small rest when they are divided by 16.
        loads("8,8", TOO_MANY);
        loads("14,3", TOO_MANY);
    }

    @Says("TOO_MANY if there are more than 14.")
    static void p04_load_fifteenSeedsWithTheStore() {
        loads("0,0/14", 14);
        loads("1,0/14", TOO_MANY);
        loads("7,7/1", TOO_MANY);
        loads("14,0/1", TOO_MANY);
    }

    @Says("it names its errors in the order in which they are checked, and the first one that applies is returned.")
    static void p04_load_badTextComesAheadOfTheOthers() {
        loads("1/", BAD_TEXT);
        loads("0,0/", BAD_TEXT);
        loads("14,14,", BAD_TEXT);
        loads("14/14x", BAD_TEXT);
    }

    @Says("it names its errors in the order in which they are checked, and the first one that applies is returned.")
    static void p04_load_badValueComesAheadOfTooMany() {
        loads("14/14", BAD_VALUE);
        loads("1/14", BAD_VALUE);
    }

    @Says("A call that returns an error changes nothing.")
    static void p04_load_refusedChangesNothing() {
        for (boolean full : new boolean[] {false, true}) {
            changesNothing("load() of no text", () -> wiped(busy(full)), OneRowSeeds::load, BAD_TEXT);
            changesNothing("load() of a fault", () -> write(busy(full), ","), OneRowSeeds::load, BAD_TEXT);
            changesNothing("load() of one pit", () -> write(wiped(busy(full)), "5"), OneRowSeeds::load, BAD_VALUE);
            changesNothing("load() of no seeds", () -> write(wiped(busy(full)), "0,0"), OneRowSeeds::load, BAD_VALUE);
            changesNothing("load() of 15", () -> write(wiped(busy(full)), "7,8"), OneRowSeeds::load, TOO_MANY);
        }
    }

    private static OneRowSeeds wiped(OneRowSeeds x) {
        x.wipe();
        return x;
    }

    @Says("Begins a round with the position of the pad (the store is 0, if it is not told), and empties the pad.")
    static void p04_load_storeThatIsNotToldIsEmpty() {
        OneRowSeeds x = loaded("1,2/5", 1, 0, 0);
        position(x, "1,2/5");
        write(x, "3,1");
        due("load()", x.load(), 4);
        position(x, "3,1/0");
        write(x, "3,1/0");
        due("load() of a store that is told as 0", x.load(), 4);
        position(x, "3,1/0");
    }

    @Says("Begins a round with the position of the pad (the store is 0, if it is not told), and empties the pad.")
    static void p04_load_emptiesThePad() {
        OneRowSeeds x = written("3,1");
        due("load()", x.load(), 4);
        due("length", x.count(PAD), 0);
        due("fault()", x.fault(), 0);
        due("load() once more", x.load(), BAD_TEXT);
        due("put", write(x, "2,2").load(), 4);
        position(x, "2,2/0");
    }

    @Says("If all seeds are in the store, it is won at once.")
    static void p04_load_allSeedsInTheStore() {
        OneRowSeeds x = written("0,0/1");
        due("load()", x.load(), 1);
        due("how", x.count(HOW), WON);
        due("can be sown", x.count(CAN), 0);
        due("sow(1)", x.sow(1), NOT_POSSIBLE);
        due("moves", x.count(MOVES), 0);
        due("back()", x.back(), NOT_POSSIBLE);
        x = loaded("0,0,0,0,0,0/14", 1, 1, 1);
        due("not stuck with EXACT", x.count(HOW), WON);
    }

    @Says("If all seeds are in the store, it is won at once.")
    static void p04_load_allSeedsButOneInTheStore() {
        due("how", loaded("0,1/13", 1, 0, 0).count(HOW), GOES_ON);
        due("how", loaded("1,0/13", 1, 0, 0).count(HOW), GOES_ON);
        due("how", loaded("1,0/13", 1, 1, 0).count(HOW), STUCK);
    }

    @Says("Begins a round with the position of the pad (the store is 0, if it is not told), and empties the pad.")
    static void p04_load_beginsARound() {
        for (OneRowSeeds x : new OneRowSeeds[] {lost(), won(), stuck()}) {
            x.set(EXACT, 0);
            x.set(LIVES, 1);
            write(x, "1,1").load();
            due("how", x.count(HOW), GOES_ON);
            due("lives", x.count(LEFT), 1);
            due("moves", x.count(MOVES), 0);
            due("kept", x.count(KEPT), 0);
            due("back()", x.back(), NOT_POSSIBLE);
        }
    }

    @Says("This is a change.")
    static void p04_load_isAChange() {
        isAChange("load()", () -> busy(false), OneRowSeeds::load);
        isAChange("load(), when six can be undone", () -> busy(true), OneRowSeeds::load);
        isAChange("load() of the same position", () -> written("2,2,2,2"), OneRowSeeds::load);
    }

    // ---- promise 5: loadExact

    @Says("BAD_VALUE if an argument is out of range")
    static void p05_loadExact_pitsTooFewOrTooMany() {
        for (int pits : NO_LENGTHS) {
            due("loadExact(" + pits + ", 1)", new OneRowSeeds().loadExact(pits, 1), BAD_VALUE);
        }
    }

    @Says("BAD_VALUE if an argument is out of range")
    static void p05_loadExact_seedsTooFewOrTooMany() {
        for (int seeds : new int[] {MIN, -1, 0, 15, 16, MAX}) {
            due("loadExact(6, " + seeds + ")", new OneRowSeeds().loadExact(6, seeds), BAD_VALUE);
        }
    }

    @Says("BAD_VALUE if an argument is out of range")
    static void p05_loadExact_fewestPitsAndSeeds() {
        OneRowSeeds x = new OneRowSeeds();
        due("loadExact(2, 1)", x.loadExact(2, 1), 1);
        position(x, "0,1/0");
    }

    @Says("BAD_VALUE if an argument is out of range")
    static void p05_loadExact_mostPitsAndSeeds() {
        OneRowSeeds x = new OneRowSeeds();
        due("loadExact(6, 14)", x.loadExact(6, 14), 4);
        position(x, "6,4,2,0,2,0/0");
    }

    private static void fits(int pits, int most, String position) {
        OneRowSeeds x = new OneRowSeeds();
        due("loadExact(" + pits + ", " + most + ") < 0", x.loadExact(pits, most) < 0 ? 1 : 0, 0);
        position(x, position);
        for (int seeds = most + 1; seeds <= 14; seeds++) {
            due("loadExact(" + pits + ", " + seeds + ")", x.loadExact(pits, seeds), NOT_POSSIBLE);
        }
        for (int seeds = 1; seeds <= most; seeds++) {
            due("loadExact(" + pits + ", " + seeds + ") < 0", x.loadExact(pits, seeds) < 0 ? 1 : 0, 0);
        }
    }

    @Says("NOT_POSSIBLE if it needs more pits.")
    static void p05_loadExact_needsMoreThan2Pits() {
        fits(2, 3, "2,1/0");
    }

    @Says("NOT_POSSIBLE if it needs more pits.")
    static void p05_loadExact_needsMoreThan3Pits() {
        fits(3, 5, "3,1,1/0");
    }

    @Says("NOT_POSSIBLE if it needs more pits.")
    static void p05_loadExact_needsMoreThan4Pits() {
        fits(4, 9, "4,2,2,1/0");
    }

    @Says("NOT_POSSIBLE if it needs more pits.")
    static void p05_loadExact_needsMoreThan5Pits() {
        fits(5, 11, "5,3,1,1,1/0");
    }

    @Says("NOT_POSSIBLE if it needs more pits.")
    static void p05_loadExact_neverNeedsMoreThan6Pits() {
        fits(6, 14, "6,4,2,0,2,0/0");
    }

    @Says("Begins a round with the exact position of so many seeds, and as many pits as are told.")
    static void p05_loadExact_morePitsThanItNeeds() {
        OneRowSeeds x = new OneRowSeeds();
        due("loadExact(6, 1)", x.loadExact(6, 1), 1);
        position(x, "0,0,0,0,0,1/0");
        due("loadExact(4, 3)", x.loadExact(4, 3), 2);
        position(x, "0,0,2,1/0");
    }

    @Says("Returns how many pits have seeds")
    static void p05_loadExact_returnsPitsNotSeeds() {
        int[] filled = {1, 1, 2, 2, 3, 2, 3, 3, 4, 4, 5, 3, 4, 4};
        for (int seeds = 1; seeds <= 14; seeds++) {
            due("loadExact(6, " + seeds + ")", new OneRowSeeds().loadExact(6, seeds), filled[seeds - 1]);
        }
    }

    @Says("it names its errors in the order in which they are checked, and the first one that applies is returned.")
    static void p05_loadExact_badValueComesAheadOfNotPossible() {
        due("loadExact(1, 14)", new OneRowSeeds().loadExact(1, 14), BAD_VALUE);
        due("loadExact(0, 14)", new OneRowSeeds().loadExact(0, 14), BAD_VALUE);
        due("loadExact(2, 15)", new OneRowSeeds().loadExact(2, 15), BAD_VALUE);
        due("loadExact(2, MAX)", new OneRowSeeds().loadExact(2, MAX), BAD_VALUE);
    }

    @Says("A call that returns an error changes nothing.")
    static void p05_loadExact_refusedChangesNothing() {
        busyChangesNothing("loadExact(1, 1)", x -> x.loadExact(1, 1), BAD_VALUE);
        busyChangesNothing("loadExact(7, 1)", x -> x.loadExact(7, 1), BAD_VALUE);
        busyChangesNothing("loadExact(6, 0)", x -> x.loadExact(6, 0), BAD_VALUE);
        busyChangesNothing("loadExact(6, 15)", x -> x.loadExact(6, 15), BAD_VALUE);
        busyChangesNothing("loadExact(5, 12)", x -> x.loadExact(5, 12), NOT_POSSIBLE);
    }

    @Says("Begins a round with the exact position of so many seeds, and as many pits as are told.")
    static void p05_loadExact_beginsARound() {
        for (OneRowSeeds x : new OneRowSeeds[] {lost(), won(), stuck()}) {
            x.set(LIVES, 1);
            due("loadExact(3, 2)", x.loadExact(3, 2), 1);
            position(x, "0,2,0/0");
            due("how", x.count(HOW), GOES_ON);
            due("lives", x.count(LEFT), 1);
            due("moves", x.count(MOVES), 0);
            due("kept", x.count(KEPT), 0);
            due("back()", x.back(), NOT_POSSIBLE);
        }
    }

    @Says("This is a change.")
    static void p05_loadExact_isAChange() {
        isAChange("loadExact(6, 14)", () -> busy(false), x -> x.loadExact(6, 14));
        isAChange("loadExact(2, 3)", () -> busy(true), x -> x.loadExact(2, 3));
    }

    // ---- promise 6: sow

    @Says("NO_SUCH if there is no such pit")
    static void p06_sow_pitTooSmall() {
        due("sow(-1)", new OneRowSeeds().sow(-1), NO_SUCH);
        due("sow(MIN)", new OneRowSeeds().sow(MIN), NO_SUCH);
    }

    @Says("NO_SUCH if there is no such pit")
    static void p06_sow_pitTooLarge() {
        for (int pits = 2; pits <= 6; pits++) {
            OneRowSeeds x = new OneRowSeeds();
            x.begin(pits, 1);
            due("sow(" + pits + "), the store", x.sow(pits), NO_SUCH);
            due("sow(" + (pits + 1) + ")", x.sow(pits + 1), NO_SUCH);
            due("sow(32)", x.sow(32), NO_SUCH);
            due("sow(MAX)", x.sow(MAX), NO_SUCH);
            due("sow(" + (pits - 1) + ")", x.sow(pits - 1), 1);
        }
    }

    @Says("Everything is numbered from 0.")
    static void p06_sow_smallestPitIsTheFarthest() {
        OneRowSeeds x = loaded("3,0,0", 1, 0, 0);
        due("sow(0)", x.sow(0), 1);
        position(x, "0,1,1/1");
    }

    @Says("NOT_POSSIBLE if the round is over, or the pit cannot be sown.")
    static void p06_sow_emptyPit() {
        OneRowSeeds x = loaded("0,2,0,1", 1, 0, 0);
        due("sow(0)", x.sow(0), NOT_POSSIBLE);
        due("sow(2)", x.sow(2), NOT_POSSIBLE);
        position(x, "0,2,0,1/0");
    }

    @Says("A move sows a pit that has seeds.")
    static void p06_sow_pitThatAMoveEmptied() {
        OneRowSeeds x = loaded("0,2,0,1", 1, 0, 0);
        due("sow(3)", x.sow(3), 1);
        due("sow(3) once more", x.sow(3), NOT_POSSIBLE);
        position(x, "0,2,0,0/1");
    }

    @Says("A round that is won or lost is over: nothing can be sown any more.")
    static void p06_sow_lostRound() {
        OneRowSeeds x = lost();
        position(x, "0,1,2/1");
        for (int pit = 0; pit < 3; pit++) {
            due("sow(" + pit + ")", x.sow(pit), NOT_POSSIBLE);
        }
        due("can be sown", x.count(CAN), 0);
    }

    @Says("A round that is won or lost is over: nothing can be sown any more.")
    static void p06_sow_wonRound() {
        OneRowSeeds x = won();
        position(x, "0,0,0/2");
        for (int pit = 0; pit < 3; pit++) {
            due("sow(" + pit + ")", x.sow(pit), NOT_POSSIBLE);
        }
        due("can be sown", x.count(CAN), 0);
    }

    @Says("A round in which no pit can be sown, though it is neither won nor lost, is stuck.")
    static void p06_sow_stuckRound() {
        OneRowSeeds x = loaded("1,2", 1, 1, 0);
        due("how", x.count(HOW), STUCK);
        due("sow(0)", x.sow(0), NOT_POSSIBLE);
        due("sow(1)", x.sow(1), NOT_POSSIBLE);
        x = stuck();
        position(x, "1,1,0/1");
        for (int pit = 0; pit < 3; pit++) {
            due("sow(" + pit + ")", x.sow(pit), NOT_POSSIBLE);
        }
    }

    @Says("it names its errors in the order in which they are checked, and the first one that applies is returned.")
    static void p06_sow_noSuchComesAheadOfNotPossible() {
        for (OneRowSeeds x : new OneRowSeeds[] {lost(), won(), stuck()}) {
            due("sow(-1)", x.sow(-1), NO_SUCH);
            due("sow(3)", x.sow(3), NO_SUCH);
        }
    }

    @Says("A call that returns an error changes nothing.")
    static void p06_sow_refusedChangesNothing() {
        busyChangesNothing("sow(-1)", x -> x.sow(-1), NO_SUCH);
        busyChangesNothing("sow(5)", x -> x.sow(5), NO_SUCH);
        busyChangesNothing("sow(3) of an empty pit", x -> x.sow(3), NOT_POSSIBLE);
        changesNothing("sow(1) when lost", Boundaries::lost, x -> x.sow(1), NOT_POSSIBLE);
        changesNothing("sow(2) when won", Boundaries::won, x -> x.sow(2), NOT_POSSIBLE);
        changesNothing("sow(0) when stuck", Boundaries::stuck, x -> x.sow(0), NOT_POSSIBLE);
    }

    /** With EXACT, the only pit with seeds can be sown with these numbers of seeds, and with no other up to 14. */
    private static void exactly(int pits, int pit, int... numbers) {
        for (int seeds = 1; seeds <= 14; seeds++) {
            StringBuilder text = new StringBuilder();
            for (int i = 0; i < pits; i++) {
                text.append(i > 0 ? "," : "").append(i == pit ? seeds : 0);
            }
            boolean right = false;
            for (int number : numbers) {
                right |= number == seeds;
            }
            OneRowSeeds x = loaded(text.toString(), 1, 1, 0);
            due("can be sown of " + text, x.count(CAN), right ? 1 << pit : 0);
            due("how of " + text, x.count(HOW), right ? GOES_ON : STUCK);
            int rounds = 1 + (seeds - (pits - pit)) / (pits + 1);
            due("sow(" + pit + ") of " + text, x.sow(pit), right ? rounds : NOT_POSSIBLE);
        }
    }

    @Says("If EXACT is 1, a pit can only be sown if the last seed of its first lap comes into the store.")
    static void p06_sow_exactNextToTheStore() {
        exactly(2, 1, 1, 4, 7, 10, 13);
        exactly(4, 3, 1, 6, 11);
        exactly(6, 5, 1, 8);
    }

    @Says("If EXACT is 1, a pit can only be sown if the last seed of its first lap comes into the store.")
    static void p06_sow_exactFarthestFromTheStore() {
        exactly(2, 0, 2, 5, 8, 11, 14);
        exactly(3, 0, 3, 7, 11);
        exactly(6, 0, 6, 13);
    }

    @Says("If EXACT is 1, a pit can only be sown if the last seed of its first lap comes into the store.")
    static void p06_sow_exactLooksAtTheFirstLapAlone() {
        OneRowSeeds x = loaded("1,1,2", 1, 1, 0);
        due("sow(0), whose second lap would come into the store", x.sow(0), NOT_POSSIBLE);
        x.set(EXACT, 0);
        due("sow(0)", x.sow(0), 1);
        due("laps", x.count(LAPS), 2);
        position(x, "0,0,3/1");
    }

    @Says("behind the last one lies the store, and behind the store the pit 0 comes again")
    static void p06_sow_behindTheLastPitLiesTheStore() {
        for (int pits = 2; pits <= 6; pits++) {
            OneRowSeeds x = new OneRowSeeds();
            x.begin(pits, 1);
            due("sow", x.sow(pits - 1), 1);
            due("the store", x.count(STORE), 1);
            due("pit 0", x.pit(0), 1);
        }
    }

    @Says("behind the last one lies the store, and behind the store the pit 0 comes again")
    static void p06_sow_behindTheStorePit0ComesAgain() {
        for (int pits = 2; pits <= 6; pits++) {
            OneRowSeeds x = new OneRowSeeds();
            x.set(RELAY, 0);
            x.begin(pits, 2);
            due("its last seed", x.ifSown(pits - 1, 0), 0);
            due("sow", x.sow(pits - 1), 1);
            due("pit 0", x.pit(0), 3);
            due("the pit itself", x.pit(pits - 1), 0);
            due("the store", x.count(STORE), 1);
        }
    }

    @Says("(the store is one of them, and so is the pit itself, if it comes again)")
    static void p06_sow_pitItselfComesAgain() {
        OneRowSeeds x = loaded("3,0", 1, 0, 0);
        due("sow(0)", x.sow(0), 1);
        position(x, "1,1/1");
        x = loaded("0,0,0,0,0,8", 1, 0, 0);
        due("sow(5)", x.sow(5), 2);
        position(x, "1,1,1,1,1,1/2");
        x = loaded("5,0", 1, 0, 0);
        due("sow(0)", x.sow(0), 2);
        position(x, "1,2/2");
    }

    @Says("(the store is one of them, and so is the pit itself, if it comes again)")
    static void p06_sow_allFourteenSeedsInOnePit() {
        OneRowSeeds x = loaded("14,0", 0, 0, 0);
        due("sow(0)", x.sow(0), 5);
        position(x, "4,5/5");
        x = loaded("0,14", 0, 0, 0);
        due("sow(1)", x.sow(1), 5);
        position(x, "5,4/5");
        x = loaded("0,0,0,0,0,14", 0, 0, 0);
        due("sow(5)", x.sow(5), 2);
        position(x, "2,2,2,2,2,2/2");
        x = loaded("14,0,0,0,0,0", 0, 0, 0);
        due("sow(0)", x.sow(0), 2);
        position(x, "2,2,2,2,2,2/2");
    }

    @Says("into the store: the move is over, and it was right")
    static void p06_sow_lastSeedIntoTheStore() {
        // The store had seeds ahead of that, and still there is no relay.
        OneRowSeeds x = loaded("2,1,2,1/3", 1, 0, 1);
        due("sow(3)", x.sow(3), 1);
        position(x, "2,1,2,0/4");
        due("laps", x.count(LAPS), 1);
        due("lives", x.count(LEFT), 1);
        due("how", x.count(HOW), GOES_ON);
    }

    @Says("into a pit that had seeds ahead of that, if RELAY is 1: this pit is sown "
            + "(a relay: one more lap of the same move)")
    static void p06_sow_lastSeedIntoAPitThatHadOneSeed() {
        OneRowSeeds x = loaded("1,1,2", 1, 0, 0);
        due("sow(0)", x.sow(0), 1);
        position(x, "0,0,3/1");
        due("laps", x.count(LAPS), 2);
        due("moves", x.count(MOVES), 1);
        due("how", x.count(HOW), GOES_ON);
    }

    @Says("into a pit that had seeds ahead of that, if RELAY is 1: this pit is sown "
            + "(a relay: one more lap of the same move)")
    static void p06_sow_lastSeedIntoAPitThatGotItsSeedsInTheMove() {
        // Pit 1 is empty ahead of the move, and has two seeds when the last one comes.
        OneRowSeeds x = loaded("7,0", 1, 0, 0);
        due("sow(0)", x.sow(0), 3);
        position(x, "3,1/3");
        due("laps", x.count(LAPS), 2);
        // Pit 5 gets a seed of its own, and then its last one.
        x = loaded("0,0,0,0,0,14", 1, 0, 0);
        due("sow(5)", x.sow(5), 4);
        position(x, "0,3,3,0,3,1/4");
        due("laps", x.count(LAPS), 4);
    }

    @Says("into any other pit: the move is over, and it was wrong.")
    static void p06_sow_lastSeedIntoAnEmptyPit() {
        OneRowSeeds x = loaded("1,0,2", 1, 0, 1);
        due("sow(0)", x.sow(0), 0);
        position(x, "0,1,2/0");
        due("laps", x.count(LAPS), 1);
        due("lives", x.count(LEFT), 0);
    }

    @Says("into any other pit: the move is over, and it was wrong.")
    static void p06_sow_lastSeedIntoThePitThatTheMoveEmptied() {
        OneRowSeeds x = loaded("4,1,0", 1, 0, 1);
        due("sow(0)", x.sow(0), 1);
        position(x, "1,2,1/1");
        due("laps", x.count(LAPS), 1);
        due("lives", x.count(LEFT), 0);
    }

    @Says("into any other pit: the move is over, and it was wrong.")
    static void p06_sow_lastSeedIntoAPitThatHadSeedsWithoutRelay() {
        OneRowSeeds x = loaded("1,1,2", 0, 0, 1);
        due("sow(0)", x.sow(0), 0);
        position(x, "0,2,2/0");
        due("laps", x.count(LAPS), 1);
        due("lives", x.count(LEFT), 0);
    }

    @Says("into any other pit: the move is over, and it was wrong.")
    static void p06_sow_relayThatEndsInAnEmptyPit() {
        OneRowSeeds x = loaded("0,1,2", 1, 0, 0);
        due("sow(1)", x.sow(1), 1);
        position(x, "1,1,0/1");
        due("laps", x.count(LAPS), 2);
        due("how", x.count(HOW), LOST);
    }

    @Says("(a relay: one more lap of the same move)")
    static void p06_sow_mostLaps() {
        OneRowSeeds x = loaded("2,0,1,0,3,8", 1, 0, 0);
        x.sow(0);
        due("laps", x.count(LAPS), 28);
        due("all seeds", x.count(ALL), 14);
        due("moves", x.count(MOVES), 1);
    }

    @Says("A wrong move takes a life, or, if there is none left, the round is lost.")
    static void p06_sow_wrongMoveTakesALife() {
        OneRowSeeds x = loaded("1,0,2", 1, 0, 1);
        x.sow(0);
        due("lives", x.count(LEFT), 0);
        due("how", x.count(HOW), GOES_ON);
        due("can be sown", x.count(CAN), 6);
        x.sow(1);
        position(x, "1,1,0/1");
        due("lives", x.count(LEFT), 0);
        due("the second wrong one loses", x.count(HOW), LOST);
    }

    @Says("A wrong move takes a life, or, if there is none left, the round is lost.")
    static void p06_sow_wrongMoveWithoutALifeLoses() {
        OneRowSeeds x = loaded("1,0,2", 1, 0, 0);
        x.sow(0);
        due("lives", x.count(LEFT), 0);
        due("how", x.count(HOW), LOST);
    }

    @Says("The round is won as soon as all seeds are in the store (behind a move).")
    static void p06_sow_lastOfAllSeedsIntoTheStore() {
        OneRowSeeds x = loaded("0,1/13", 1, 0, 0);
        due("sow(1)", x.sow(1), 1);
        due("how", x.count(HOW), WON);
        x = loaded("2,0,0/3", 1, 1, 1);
        due("how", x.count(HOW), STUCK);
        x = loaded("0,1", 0, 1, 1);
        x.sow(1);
        due("one seed", x.count(HOW), WON);
        due("with a life left", x.count(LEFT), 1);
    }

    @Says("The round is won as soon as all seeds are in the store (behind a move).")
    static void p06_sow_allSeedsButOneInTheStore() {
        OneRowSeeds x = loaded("0,1,1/12", 1, 0, 0);
        x.sow(2);
        position(x, "0,1,0/13");
        due("how", x.count(HOW), GOES_ON);
        x.sow(1);
        position(x, "0,0,1/13");
        due("how", x.count(HOW), LOST);
    }

    @Says("Returns how many seeds came into the store")
    static void p06_sow_returnsSeedsThatCameIntoTheStore() {
        due("none", loaded("1,0,2/5", 1, 0, 0).sow(0), 0);
        due("one", loaded("1,0,2/5", 1, 0, 0).sow(2), 1);
        due("one of each round", loaded("0,8/5", 0, 0, 0).sow(1), 3);
        due("those of all laps", loaded("13,0/1", 1, 0, 0).sow(0), 9);
    }

    @Says("all together are 1 to 14, and stay as many.")
    static void p06_sow_seedsStayAsMany() {
        for (String text : new String[] {"2,0,1,0,3,8", "14,0", "7,7", "0,14", "5,4,3,2/0", "6,4,2,0,2,0"}) {
            OneRowSeeds x = loaded(text, 1, 0, 1);
            for (int i = 0; i < 20; i++) {
                x.sow(i % x.count(PITS));
                due("all seeds of " + text, x.count(ALL), 14);
            }
        }
    }

    @Says("This is a change.")
    static void p06_sow_isAChange() {
        isAChange("sow(4), a right move", () -> busy(false), x -> x.sow(4));
        isAChange("sow(0), a wrong one that takes a life", () -> loaded("1,0,2", 1, 0, 1), x -> x.sow(0));
        isAChange("sow(0), one that loses", () -> loaded("1,0,2", 1, 0, 0), x -> x.sow(0));
        isAChange("sow(1), one that wins", () -> loaded("0,1", 1, 0, 0), x -> x.sow(1));
        isAChange("sow(4), when six can be undone", () -> busy(true), x -> x.sow(4));
    }

    // ---- promise 7: back

    @Says("NOT_POSSIBLE if none is kept.")
    static void p07_back_noMoveIsKept() {
        due("of a new object", new OneRowSeeds().back(), NOT_POSSIBLE);
        due("of a round that was won at once", loaded("0,0/3", 1, 0, 1).back(), NOT_POSSIBLE);
        due("of a round that was stuck at once", loaded("1,2", 1, 1, 1).back(), NOT_POSSIBLE);
    }

    @Says("NOT_POSSIBLE if none is kept.")
    static void p07_back_allMovesAreTakenBack() {
        OneRowSeeds x = new OneRowSeeds();
        x.sow(2);
        x.sow(3);
        due("back()", x.back(), 3);
        due("back()", x.back(), 2);
        due("back()", x.back(), NOT_POSSIBLE);
        due("kept", x.count(KEPT), 0);
        position(x, "2,2,2,2/0");
    }

    @Says("The moves of the round are kept, up to the last 20.")
    static void p07_back_notIntoTheRoundBefore() {
        OneRowSeeds x = new OneRowSeeds();
        x.sow(2);
        x.begin(4, 2);
        due("back() behind begin()", x.back(), NOT_POSSIBLE);
        x.sow(2);
        write(x, "1,1").load();
        due("back() behind load()", x.back(), NOT_POSSIBLE);
        x.sow(1);
        x.loadExact(2, 1);
        due("back() behind loadExact()", x.back(), NOT_POSSIBLE);
    }

    @Says("The moves of the round are kept, up to the last 20.")
    static void p07_back_allMovesOfTheLongestRound() {
        // No round has more moves: a right one brings seeds into the store, a wrong one takes the life or loses.
        OneRowSeeds x = loaded("5,3,3,2,1", 0, 0, 1);
        int[] pits = {4, 3, 4, 2, 4, 0, 4, 3, 2, 4, 1, 4, 3, 4, 2};
        for (int pit : pits) {
            due("sow(" + pit + ") < 0", x.sow(pit) < 0 ? 1 : 0, 0);
        }
        due("moves", x.count(MOVES), 15);
        due("kept", x.count(KEPT), 15);
        due("how", x.count(HOW), LOST);
        due("the oldest one", x.move(14), pits[0]);
        due("one more", x.move(15), NONE);
        for (int i = 14; i >= 0; i--) {
            due("back()", x.back(), pits[i]);
            due("kept", x.count(KEPT), i);
        }
        position(x, "5,3,3,2,1/0");
        due("lives", x.count(LEFT), 1);
    }

    @Says("A call that returns an error changes nothing.")
    static void p07_back_refusedChangesNothing() {
        for (boolean full : new boolean[] {false, true}) {
            changesNothing("back()", () -> movesTakenBack(busy(full)), OneRowSeeds::back, NOT_POSSIBLE);
        }
    }

    private static OneRowSeeds movesTakenBack(OneRowSeeds x) {
        x.back();
        x.back();
        due("kept", x.count(KEPT), 0);
        return x;
    }

    @Says("Returns the pit that it sowed")
    static void p07_back_returnsThePitNotTheLastPlace() {
        OneRowSeeds x = new OneRowSeeds();
        x.sow(0);
        due("back()", x.back(), 0);
        x = loaded("0,0,0,0,0,1", 1, 0, 0);
        x.sow(5);
        due("back()", x.back(), 5);
    }

    private static void thereAndBack(String text, int relay, int pit) {
        OneRowSeeds x = loaded(text, relay, 0, 0);
        due("sow(" + pit + ") of " + text + " < 0", x.sow(pit) < 0 ? 1 : 0, 0);
        due("back()", x.back(), pit);
        position(x, text);
        due("how", x.count(HOW), GOES_ON);
        due("lives", x.count(LEFT), 0);
    }

    @Says("of each place behind the pit, to which a seed went, one seed is taken, from the last one on, "
            + "and all these are put into the pit")
    static void p07_back_roundTheStore() {
        thereAndBack("1,0,2/3", 0, 2);
        thereAndBack("1,1,1,1,1,9/0", 0, 5);
        thereAndBack("6,0,0,0,0,0/0", 0, 0);
    }

    @Says("of each place behind the pit, to which a seed went, one seed is taken, from the last one on, "
            + "and all these are put into the pit")
    static void p07_back_pitItselfCameAgain() {
        thereAndBack("3,0/0", 1, 0);
        thereAndBack("14,0/0", 0, 0);
        thereAndBack("0,0,0,0,0,14/0", 0, 5);
    }

    @Says("To take one back means to sow its laps backward, the last one first")
    static void p07_back_relays() {
        thereAndBack("2,2,2,2/0", 1, 0);
        thereAndBack("0,0,0,0,0,14/0", 1, 5);
        thereAndBack("13,0/1", 1, 0);
        thereAndBack("2,0,1,0,3,8/0", 1, 0);
    }

    @Says("To take one back means to sow its laps backward, the last one first")
    static void p07_back_afterTheSettingsChanged() {
        OneRowSeeds x = new OneRowSeeds();
        x.sow(2);
        x.sow(3);
        position(x, "3,0,1,1/3");
        x.set(RELAY, 0);
        x.set(EXACT, 1);
        due("back()", x.back(), 3);
        position(x, "2,2,0,3/1");
        due("back()", x.back(), 2);
        position(x, "2,2,2,2/0");
        due("the settings stay", x.count(IS_RELAY), 0);
        due("the settings stay", x.count(IS_EXACT), 1);
    }

    @Says("a life that it took comes back, and the round is not over any more.")
    static void p07_back_lifeThatItTookComesBack() {
        OneRowSeeds x = loaded("1,0,2", 1, 0, 1);
        x.set(LIVES, 0);
        x.sow(0);
        due("lives", x.count(LEFT), 0);
        due("back()", x.back(), 0);
        due("lives", x.count(LEFT), 1);
        position(x, "1,0,2/0");
    }

    @Says("a life that it took comes back, and the round is not over any more.")
    static void p07_back_noLifeComesBackOfARightMove() {
        OneRowSeeds x = loaded("1,0,1", 1, 0, 1);
        x.sow(2);
        due("back()", x.back(), 2);
        due("lives", x.count(LEFT), 1);
        x.sow(0);
        x.sow(2);
        due("lives", x.count(LEFT), 0);
        due("back()", x.back(), 2);
        due("lives", x.count(LEFT), 0);
        due("back()", x.back(), 0);
        due("lives", x.count(LEFT), 1);
    }

    @Says("a life that it took comes back, and the round is not over any more.")
    static void p07_back_noLifeComesBackOfAMoveThatLost() {
        OneRowSeeds x = loaded("1,0,2", 1, 0, 1);
        x.sow(0);
        x.sow(1);
        due("how", x.count(HOW), LOST);
        due("back()", x.back(), 1);
        due("how", x.count(HOW), GOES_ON);
        due("lives", x.count(LEFT), 0);
        position(x, "0,1,2/0");
        due("can be sown", x.count(CAN), 6);
        due("sow(2)", x.sow(2), 1);
    }

    @Says("a life that it took comes back, and the round is not over any more.")
    static void p07_back_wonRoundGoesOn() {
        OneRowSeeds x = won();
        due("back()", x.back(), 2);
        due("how", x.count(HOW), GOES_ON);
        position(x, "0,0,1/1");
        due("sow(2)", x.sow(2), 1);
        due("how", x.count(HOW), WON);
    }

    @Says("moves of the round so far (those that were taken back do not count)")
    static void p07_back_movesAreNotCounted() {
        OneRowSeeds x = new OneRowSeeds();
        x.sow(2);
        x.sow(3);
        x.back();
        due("moves", x.count(MOVES), 1);
        due("kept", x.count(KEPT), 1);
        kept(x, "2");
        x.sow(0);
        due("moves", x.count(MOVES), 2);
        kept(x, "02");
    }

    @Says("This is a change.")
    static void p07_back_isAChange() {
        isAChange("back()", () -> busy(false), OneRowSeeds::back);
        isAChange("back(), when six can be undone", () -> busy(true), OneRowSeeds::back);
        isAChange("back() of a lost round", Boundaries::lost, OneRowSeeds::back);
        isAChange("back() of a won round", Boundaries::won, OneRowSeeds::back);
    }

    // ---- promise 8: play

    @Says("Makes moves by the first best play (see best()), until the round is over or stuck, "
            + "or the store has the best store.")
    static void p08_play_untilItIsWon() {
        OneRowSeeds x = new OneRowSeeds();
        due("play()", x.play(), 6);
        due("how", x.count(HOW), WON);
        due("moves", x.count(MOVES), 6);
        due("kept", x.count(KEPT), 6);
        position(x, "0,0,0,0/8");
    }

    @Says("Makes moves by the first best play (see best()), until the round is over or stuck, "
            + "or the store has the best store.")
    static void p08_play_untilItIsLost() {
        OneRowSeeds x = loaded("0,2", 1, 0, 0);
        due("play()", x.play(), 1);
        due("how", x.count(HOW), LOST);
        position(x, "1,0/1");
    }

    @Says("Makes moves by the first best play (see best()), until the round is over or stuck, "
            + "or the store has the best store.")
    static void p08_play_untilItIsStuck() {
        OneRowSeeds x = loaded("1,1,1", 1, 1, 0);
        due("play()", x.play(), 1);
        due("how", x.count(HOW), STUCK);
        position(x, "1,1,0/1");
    }

    @Says("Makes moves by the first best play (see best()), until the round is over or stuck, "
            + "or the store has the best store.")
    static void p08_play_untilTheStoreHasTheBestStore() {
        OneRowSeeds x = loaded("1,0,1", 0, 0, 0);
        due("play()", x.play(), 1);
        position(x, "1,0,0/1");
        due("how", x.count(HOW), GOES_ON);
        due("can be sown", x.count(CAN), 1);
    }

    @Says("Returns how many moves are made.")
    static void p08_play_noMoveWhenItIsOver() {
        due("lost", lost().play(), 0);
        due("won", won().play(), 0);
        due("won at once", loaded("0,0/5", 1, 0, 1).play(), 0);
    }

    @Says("Returns how many moves are made.")
    static void p08_play_noMoveWhenItIsStuck() {
        OneRowSeeds x = stuck();
        due("play()", x.play(), 0);
        position(x, "1,1,0/1");
        due("stuck at once", loaded("1,2", 1, 1, 1).play(), 0);
    }

    @Says("Returns how many moves are made.")
    static void p08_play_noMoveWhenTheStoreHasTheBestStore() {
        OneRowSeeds x = loaded("1,0", 1, 0, 0);
        due("play()", x.play(), 0);
        position(x, "1,0/0");
        due("how", x.count(HOW), GOES_ON);
        due("moves", x.count(MOVES), 0);
    }

    @Says("Returns how many moves are made.")
    static void p08_play_asManyMovesAsThereCanBe() {
        OneRowSeeds x = new OneRowSeeds();
        x.set(EXACT, 1);
        x.loadExact(6, 14);
        due("play()", x.play(), 14);
        due("how", x.count(HOW), WON);
        due("moves", x.count(MOVES), 14);
        due("kept", x.count(KEPT), 14);
        due("one change", x.count(UNDOABLE), 3);
    }

    @Says("The first best play makes, in each position, the move with the lowest pit behind which the best store "
            + "can still be reached.")
    static void p08_play_lowestPitThoughAnotherOneWinsInFewerMoves() {
        OneRowSeeds x = loaded("4,1", 1, 0, 1);
        due("fewest moves", x.best(3), 3);
        due("play()", x.play(), 4);
        due("how", x.count(HOW), WON);
        due("the first one", x.move(3), 0);
    }

    @Says("The first best play makes, in each position, the move with the lowest pit behind which the best store "
            + "can still be reached.")
    static void p08_play_notAPitBehindWhichItCannotBeReached() {
        OneRowSeeds x = loaded("0,2,1", 1, 1, 0);
        due("can be sown", x.count(CAN), 6);
        due("play()", x.play(), 3);
        kept(x, "212");
    }

    @Says("This is a change.")
    static void p08_play_isOneChange() {
        isAChange("play()", () -> busy(false), OneRowSeeds::play);
        isAChange("play(), when six can be undone", () -> busy(true), OneRowSeeds::play);
        isAChange("play() of a new object", OneRowSeeds::new, OneRowSeeds::play);
    }

    @Says("records the state before it (also if nothing is different then)")
    static void p08_play_noMoveIsAChangeToo() {
        isAChange("play() when lost", Boundaries::lost, OneRowSeeds::play);
        isAChange("play() when won", Boundaries::won, OneRowSeeds::play);
        isAChange("play() when stuck", Boundaries::stuck, OneRowSeeds::play);
    }

    public static void main(String[] args) {
        runAll(ChangesBoundariesTest.class, 1, 8, args);
    }
}
