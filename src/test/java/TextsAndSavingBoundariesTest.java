/** Promises 16 to 21: a test for each sentence that names a boundary. */
public final class TextsAndSavingBoundariesTest extends Boundaries {
    private static final String ALL_FORTY = "1234567890123456789012345678901234567890";

    // ---- promise 16: put

    @Says("BAD_VALUE if there is no character")
    static void p16_put_noCharacter() {
        due("put(0)", new OneRowSeeds().put(0), BAD_VALUE);
        due("put(0) into a full pad", written(ALL_FORTY).put(0), BAD_VALUE);
    }

    @Says("`characters`: 1 to 8 characters")
    static void p16_put_oneToEightCharacters() {
        for (int length = 1; length <= 8; length++) {
            OneRowSeeds x = new OneRowSeeds();
            due("put of " + length, x.put(code("12345678".substring(0, length))), length);
            due("length", x.count(PAD), length);
        }
    }

    @Says("a code is not 33 to 126")
    static void p16_put_codeTooSmall() {
        for (int low = 1; low <= 32; low++) {
            due("put(" + low + ")", new OneRowSeeds().put(low), BAD_VALUE);
        }
        due("put(33)", new OneRowSeeds().put(33), 1);
    }

    @Says("a code is not 33 to 126")
    static void p16_put_codeTooLarge() {
        for (int high = 127; high <= 255; high++) {
            due("put(" + high + ")", new OneRowSeeds().put(high), BAD_VALUE);
        }
        due("put(126)", new OneRowSeeds().put(126), 1);
    }

    @Says("a code is not 33 to 126")
    static void p16_put_badCodeAtEachPlace() {
        for (int length = 1; length <= 8; length++) {
            for (int place = 0; place < length; place++) {
                for (long bad : new long[] {1, 32, 127, 128, 255}) {
                    long number = code("11111111".substring(0, length));
                    number = number & ~(255L << (8 * place)) | bad << (8 * place);
                    OneRowSeeds x = new OneRowSeeds();
                    due("put(" + number + ")", x.put(number), BAD_VALUE);
                    due("length", x.count(PAD), 0);
                }
            }
        }
    }

    @Says("a code is not 33 to 126")
    static void p16_put_smallestAndLargestCodeAtEachPlace() {
        for (int place = 0; place < 8; place++) {
            for (long good : new long[] {33, 126}) {
                long number = code("11111111") & ~(255L << (8 * place)) | good << (8 * place);
                due("put(" + number + ")", new OneRowSeeds().put(number), 8);
            }
        }
    }

    @Says("a code is not 33 to 126")
    static void p16_put_negativeNumbers() {
        due("put(-1)", new OneRowSeeds().put(-1), BAD_VALUE);
        due("put(MIN)", new OneRowSeeds().put(Long.MIN_VALUE), BAD_VALUE);
        due("put(MIN + 49)", new OneRowSeeds().put(Long.MIN_VALUE + 49), BAD_VALUE);
        due("the highest bit", new OneRowSeeds().put(code("11111111") | 1L << 63), BAD_VALUE);
        due("put(MAX)", new OneRowSeeds().put(Long.MAX_VALUE), BAD_VALUE);
    }

    @Says("8 bits that are 0 mean that there are no more characters, and everything above them has to be 0, too.")
    static void p16_put_gapAtEachPlace() {
        for (int length = 2; length <= 8; length++) {
            for (int place = 0; place < length - 1; place++) {
                long number = code("11111111".substring(0, length)) & ~(255L << (8 * place));
                OneRowSeeds x = new OneRowSeeds();
                due("put(" + number + ")", x.put(number), BAD_VALUE);
                due("length", x.count(PAD), 0);
            }
        }
    }

    @Says("or a bit above 8 bits that are 0 is not 0")
    static void p16_put_oneBitAboveAGap() {
        for (int length = 0; length <= 6; length++) {
            for (int bit = 8 * length + 8; bit < 64; bit++) {
                long number = code("111111".substring(0, length)) | 1L << bit;
                due("put(" + number + ")", new OneRowSeeds().put(number), BAD_VALUE);
            }
        }
    }

    @Says("its lowest 8 bits are the last character, the next 8 bits the one before, and so on")
    static void p16_put_lowestBitsAreTheLastCharacter() {
        OneRowSeeds x = new OneRowSeeds();
        due("put", x.put('1' << 16 | ',' << 8 | '2'), 3);
        due("load()", x.load(), 3);
        position(x, "1,2/0");
        due("put of eight", x.put(code("10,0,1/2")), 8);
        due("load()", x.load(), 13);
        position(x, "10,0,1/2");
    }

    @Says("Appends characters to the pad.")
    static void p16_put_behindThoseOfThePad() {
        OneRowSeeds x = new OneRowSeeds();
        due("put", x.put(code("3,")), 2);
        due("put", x.put(code("1")), 3);
        due("put", x.put(code("/2")), 5);
        due("load()", x.load(), 6);
        position(x, "3,1/2");
    }

    @Says("TOO_MANY if the pad would be longer than 40.")
    static void p16_put_fullPad() {
        OneRowSeeds x = written(ALL_FORTY);
        due("length", x.count(PAD), 40);
        due("one more", x.put('1'), TOO_MANY);
        due("eight more", x.put(code("12345678")), TOO_MANY);
        due("length", x.count(PAD), 40);
        due("wipe()", x.wipe(), 40);
        due("one", x.put('1'), 1);
    }

    @Says("TOO_MANY if the pad would be longer than 40.")
    static void p16_put_fortyAndFortyOne() {
        for (int length = 32; length <= 39; length++) {
            for (int more = 1; more <= 8; more++) {
                OneRowSeeds x = written(ALL_FORTY.substring(0, length));
                boolean fits = length + more <= 40;
                due(more + " more than " + length, x.put(code("12345678".substring(0, more))),
                        fits ? length + more : TOO_MANY);
                due("length", x.count(PAD), fits ? length + more : length);
            }
        }
    }

    @Says("it names its errors in the order in which they are checked, and the first one that applies is returned.")
    static void p16_put_badValueComesAheadOfTooMany() {
        due("a code", written(ALL_FORTY).put(32), BAD_VALUE);
        due("a code of eight", written(ALL_FORTY).put(code("1234567") | 127L << 56), BAD_VALUE);
        due("a bit", written(ALL_FORTY).put(1L << 63 | '1'), BAD_VALUE);
    }

    @Says("A call that returns an error changes nothing.")
    static void p16_put_refusedChangesNothing() {
        busyChangesNothing("put(0)", x -> x.put(0), BAD_VALUE);
        busyChangesNothing("put of a bad first code", x -> x.put(code("1234") | 31L << 32), BAD_VALUE);
        busyChangesNothing("put of a bad last code", x -> x.put(code("1234") << 8 | 31), BAD_VALUE);
        busyChangesNothing("put of a gap", x -> x.put(code("1234") << 16 | '1'), BAD_VALUE);
        for (boolean full : new boolean[] {false, true}) {
            changesNothing("put of too many", () -> write(busy(full), ALL_FORTY.substring(0, 33)),
                    x -> x.put(code("123")), TOO_MANY);
        }
    }

    @Says("each method that is a change, and returns no error, records the state before it")
    static void p16_put_isNoChange() {
        OneRowSeeds x = new OneRowSeeds();
        x.put('1');
        due("undoable", x.count(UNDOABLE), 0);
        due("undo()", x.undo(), NOT_POSSIBLE);
        due("length", x.count(PAD), 1);
    }

    // ---- promise 17: wipe

    @Says("Empties the pad, and returns the length that it had.")
    static void p17_wipe_emptyPad() {
        due("wipe()", new OneRowSeeds().wipe(), 0);
        OneRowSeeds x = written("1,2");
        x.wipe();
        due("wipe() once more", x.wipe(), 0);
        due("length", x.count(PAD), 0);
    }

    @Says("Empties the pad, and returns the length that it had.")
    static void p17_wipe_eachLength() {
        OneRowSeeds x = new OneRowSeeds();
        for (int length = 1; length <= 40; length++) {
            write(x, ALL_FORTY.substring(0, length));
            due("wipe()", x.wipe(), length);
            due("length", x.count(PAD), 0);
            due("fault()", x.fault(), 0);
        }
    }

    @Says("Empties the pad, and returns the length that it had.")
    static void p17_wipe_nothingIsLeft() {
        OneRowSeeds x = written("1,2,3,4/1");
        x.wipe();
        due("load()", x.load(), BAD_TEXT);
        write(x, "3,1");
        due("fault()", x.fault(), NONE);
        due("load()", x.load(), 4);
        position(x, "3,1/0");
    }

    @Says("each method that is a change, and returns no error, records the state before it")
    static void p17_wipe_isNoChange() {
        for (boolean full : new boolean[] {false, true}) {
            OneRowSeeds x = busy(full);
            due("wipe()", x.wipe(), 5);
            write(x, "3,1/2");
            alike("wipe()", x, busy(full));
        }
    }

    // ---- promise 18: fault

    private static void faultOf(String text, int want) {
        OneRowSeeds x = written(text);
        due("fault() of '" + text + "'", x.fault(), want);
    }

    @Says("if there is none and the text ends too early (also if it is empty), it is the length of the text.")
    static void p18_fault_emptyText() {
        faultOf("", 0);
        OneRowSeeds x = written("1,2");
        x.wipe();
        due("fault() behind wipe()", x.fault(), 0);
        x = written("1,2");
        x.load();
        due("fault() behind load()", x.fault(), 0);
    }

    @Says("if there is none and the text ends too early (also if it is empty), it is the length of the text.")
    static void p18_fault_textThatEndsTooEarly() {
        faultOf("1,", 2);
        faultOf("14,", 3);
        faultOf("1,2,3,4,5,", 10);
        faultOf("1/", 2);
        faultOf("1,2/", 4);
        faultOf("1,2,3,4,5,6/", 12);
    }

    @Says("Returns the fault of the pad, NONE if there is none.")
    static void p18_fault_none() {
        faultOf("0", NONE);
        faultOf("1,2", NONE);
        faultOf("1,2/3", NONE);
        faultOf("0,0/0", NONE);
        faultOf("14,14,14,14,14,14/14", NONE);
    }

    @Says("a pit and the store are numbers from 0 to 14 without leading zeros")
    static void p18_fault_smallestAndLargestNumbers() {
        for (int number = 0; number <= 14; number++) {
            faultOf(String.valueOf(number), NONE);
            faultOf("1," + number, NONE);
            faultOf("1/" + number, NONE);
            faultOf(number + "," + number + "/" + number, NONE);
        }
    }

    @Says("(also of a digit by which a number would be above 14")
    static void p18_fault_numbersAbove14() {
        for (int number = 15; number <= 99; number++) {
            faultOf(String.valueOf(number), 1);
            faultOf("10," + number, 4);
            faultOf("1/" + number + "/", 3);
        }
        faultOf("100", 2);
        faultOf("140", 2);
        faultOf("149", 2);
        faultOf("1,140", 4);
        faultOf("1/101", 4);
        faultOf("4294967297", 1);
        faultOf("1111111111111111111111111111111111111111", 2);
    }

    @Says("a pit and the store are numbers from 0 to 14 without leading zeros")
    static void p18_fault_leadingZeros() {
        faultOf("00", 1);
        faultOf("01", 1);
        faultOf("1,00", 3);
        faultOf("1,09", 3);
        faultOf("1/00", 3);
        faultOf("1/014", 3);
        faultOf("10", NONE);
        faultOf("1,10/10", NONE);
    }

    @Says("there are at most 6 pits.")
    static void p18_fault_sixPitsAndSeven() {
        faultOf("1,2,3,4,5", NONE);
        faultOf("1,2,3,4,5,6", NONE);
        faultOf("1,2,3,4,5,6,", 11);
        faultOf("1,2,3,4,5,6,7", 11);
        faultOf("10,11,12,13,14,10,1", 17);
        faultOf("1,2,3,4,5,6/7", NONE);
        faultOf("1,2,3,4,5,6,7/1", 11);
    }

    @Says("text = pit { \",\" pit } [ \"/\" store ]")
    static void p18_fault_onePitAlone() {
        faultOf("5", NONE);
        faultOf("5/3", NONE);
    }

    @Says("text = pit { \",\" pit } [ \"/\" store ]")
    static void p18_fault_onlyOneStore() {
        faultOf("1/2/", 3);
        faultOf("1/2/3", 3);
        faultOf("1/2,", 3);
        faultOf("1/2,3", 3);
        faultOf("1,2/14/1", 6);
    }

    @Says("text = pit { \",\" pit } [ \"/\" store ]")
    static void p18_fault_numberIsDue() {
        faultOf(",", 0);
        faultOf("/", 0);
        faultOf(",1", 0);
        faultOf("/1", 0);
        faultOf("1,,2", 2);
        faultOf("1,/2", 2);
        faultOf("1/,2", 2);
        faultOf("1//2", 2);
    }

    @Says("The fault is the index of the first character that cannot stand at its place when the text is read "
            + "from left to right")
    static void p18_fault_otherCharacters() {
        for (char sign = 33; sign <= 126; sign++) {
            boolean digit = sign >= '0' && sign <= '9';
            faultOf(String.valueOf(sign), digit ? NONE : 0);
            faultOf("1" + sign, sign <= '4' && digit ? NONE : sign == ',' || sign == '/' ? 2 : 1);
            faultOf("1," + sign, digit ? NONE : 2);
            faultOf("1/" + sign, digit ? NONE : 2);
            faultOf("0" + sign, sign == ',' || sign == '/' ? 2 : 1);
            faultOf("1/2" + sign, 3);
        }
    }

    @Says("The fault is the index of the first character that cannot stand at its place when the text is read "
            + "from left to right")
    static void p18_fault_firstOfMore() {
        faultOf("1,x,y", 2);
        faultOf("x,15", 0);
        faultOf("1,2,15,x", 5);
        faultOf("1,2,", 4);
        faultOf("1,2,x", 4);
    }

    @Says("how many seeds there are together does not matter for it")
    static void p18_fault_moreSeedsThanThereCanBe() {
        faultOf("14,14", NONE);
        faultOf("14,14,14,14,14,14/14", NONE);
        faultOf("8,7", NONE);
        faultOf("0,0", NONE);
    }

    @Says("The pad is a text of at most 40 characters")
    static void p18_fault_fullPad() {
        faultOf(ALL_FORTY, 2);
        faultOf("14,14,14,14,14,14/14xxxxxxxxxxxxxxxxxxxx", 20);
        faultOf("14,14,14,14,14,14,14,14,14,14,14,14,14,1", 17);
    }

    @Says("Returns the fault of the pad, NONE if there is none.")
    static void p18_fault_changesNothing() {
        busyChangesNothing("fault()", OneRowSeeds::fault, NONE);
        for (boolean full : new boolean[] {false, true}) {
            changesNothing("fault()", () -> write(busy(full), ","), OneRowSeeds::fault, 5);
        }
    }

    // ---- promise 19: undo

    @Says("NOT_POSSIBLE if there is none.")
    static void p19_undo_nothingToUndo() {
        OneRowSeeds x = new OneRowSeeds();
        due("undo()", x.undo(), NOT_POSSIBLE);
        x.sow(2);
        due("undo()", x.undo(), 0);
        due("undo() once more", x.undo(), NOT_POSSIBLE);
        position(x, "2,2,2,2/0");
    }

    @Says("A call that returns an error changes nothing.")
    static void p19_undo_refusedChangesNothing() {
        changesNothing("undo()", () -> allUndone(busy(false)), OneRowSeeds::undo, NOT_POSSIBLE);
        changesNothing("undo()", () -> allUndone(busy(true)), OneRowSeeds::undo, NOT_POSSIBLE);
    }

    private static OneRowSeeds allUndone(OneRowSeeds x) {
        for (int i = 0; i < 6; i++) {
            x.undo();
        }
        due("undoable", x.count(UNDOABLE), 0);
        return x;
    }

    /** A new object, and as many rounds of 2, 3, .. pits begun. */
    private static OneRowSeeds rounds(int number) {
        OneRowSeeds x = new OneRowSeeds();
        for (int i = 0; i < number; i++) {
            x.begin(2 + i % 5, 1 + i / 5 % 2);
        }
        return x;
    }

    @Says("A history of at most 6 states is kept")
    static void p19_undo_sixStates() {
        OneRowSeeds x = rounds(6);
        for (int left = 5; left >= 1; left--) {
            due("undo()", x.undo(), left);
            due("all seeds", x.count(ALL), left == 5 ? 6 : left + 1);
            due("pits", x.count(PITS), left == 5 ? 6 : left + 1);
        }
        due("undo()", x.undo(), 0);
        position(x, "2,2,2,2/0");
        due("undo()", x.undo(), NOT_POSSIBLE);
    }

    @Says("when one more is recorded, the oldest one is dropped.")
    static void p19_undo_seventhStateDropsTheOldest() {
        OneRowSeeds x = rounds(7);
        due("undoable", x.count(UNDOABLE), 6);
        String[] want = {"2,2/0", "1,1,1,1,1,1/0", "1,1,1,1,1/0", "1,1,1,1/0", "1,1,1/0", "1,1/0"};
        for (int i = 0; i < 6; i++) {
            due("undo()", x.undo(), 5 - i);
            position(x, want[i]);
        }
        due("undo()", x.undo(), NOT_POSSIBLE);
        position(x, "1,1/0");
    }

    @Says("when one more is recorded, the oldest one is dropped.")
    static void p19_undo_manyMoreStates() {
        for (int number = 8; number <= 40; number++) {
            OneRowSeeds x = rounds(number);
            due("undoable", x.count(UNDOABLE), 6);
            for (int i = 1; i <= 6; i++) {
                x.undo();
                position(x, positionOf(rounds(number - i)));
            }
            due("undo()", x.undo(), NOT_POSSIBLE);
        }
    }

    @Says("when one more is recorded, the oldest one is dropped.")
    static void p19_undo_changesBehindUndo() {
        OneRowSeeds x = rounds(8);
        x.undo();
        x.undo();
        due("begin", x.begin(2, 7), 14);
        due("undoable", x.count(UNDOABLE), 5);
        x.begin(2, 6);
        due("undoable", x.count(UNDOABLE), 6);
        x.begin(2, 5);
        due("undoable", x.count(UNDOABLE), 6);
        String[] want = {"6,6/0", "7,7/0", "2,2/0", "1,1,1,1,1,1/0", "1,1,1,1,1/0", "1,1,1,1/0"};
        for (int i = 0; i < 6; i++) {
            due("undo()", x.undo(), 5 - i);
            position(x, want[i]);
        }
        due("undo()", x.undo(), NOT_POSSIBLE);
    }

    @Says("Undoes the latest change: everything except the pad, the slots and the history is as it was before it.")
    static void p19_undo_theRowOfAnotherLength() {
        OneRowSeeds x = loaded("1,2,3,1,1,1/2", 1, 0, 0);
        x.begin(2, 1);
        x.undo();
        position(x, "1,2,3,1,1,1/2");
        x = loaded("1,2/5", 1, 0, 0);
        x.begin(6, 1);
        x.undo();
        position(x, "1,2/5");
        due("pit(2)", x.pit(2), NO_SUCH);
    }

    @Says("Undoes the latest change: everything except the pad, the slots and the history is as it was before it.")
    static void p19_undo_settings() {
        OneRowSeeds x = new OneRowSeeds();
        x.set(RELAY, 0);
        x.set(EXACT, 1);
        x.set(LIVES, 1);
        x.undo();
        due("LIVES", x.count(IS_LIVES), 0);
        due("EXACT", x.count(IS_EXACT), 1);
        x.undo();
        due("EXACT", x.count(IS_EXACT), 0);
        due("RELAY", x.count(IS_RELAY), 0);
        x.undo();
        due("RELAY", x.count(IS_RELAY), 1);
    }

    @Says("Undoes the latest change: everything except the pad, the slots and the history is as it was before it.")
    static void p19_undo_aLifeAndALoss() {
        OneRowSeeds x = loaded("1,0,2", 1, 0, 1);
        x.sow(0);
        x.sow(1);
        due("how", x.count(HOW), LOST);
        x.undo();
        due("how", x.count(HOW), GOES_ON);
        due("lives", x.count(LEFT), 0);
        x.undo();
        due("lives", x.count(LEFT), 1);
        position(x, "1,0,2/0");
        x = lost();
        x.back();
        due("how", x.count(HOW), GOES_ON);
        x.undo();
        due("it is lost again", x.count(HOW), LOST);
        due("sow(1)", x.sow(1), NOT_POSSIBLE);
    }

    @Says("Undoes the latest change: everything except the pad, the slots and the history is as it was before it.")
    static void p19_undo_keptMovesAndTheirLaps() {
        OneRowSeeds x = new OneRowSeeds();
        x.sow(2);
        x.sow(3);
        x.back();
        x.sow(0);
        kept(x, "02");
        x.undo();
        x.undo();
        kept(x, "32");
        due("laps", x.count(LAPS), 2);
        due("moves", x.count(MOVES), 2);
        due("back()", x.back(), 3);
        position(x, "2,2,0,3/1");
        x.begin(2, 1);
        x.sow(1);
        x.undo();
        x.undo();
        kept(x, "2");
        due("laps", x.count(LAPS), 1);
        due("back()", x.back(), 2);
        position(x, "2,2,2,2/0");
    }

    @Says("everything except the pad, the slots and the history is as it was before it.")
    static void p19_undo_bringsNoTextBack() {
        OneRowSeeds x = written("3,1");
        x.load();
        due("undo()", x.undo(), 0);
        due("length", x.count(PAD), 0);
        due("fault()", x.fault(), 0);
        position(x, "2,2,2,2/0");
    }

    @Says("everything except the pad, the slots and the history is as it was before it.")
    static void p19_undo_takesNoTextAway() {
        OneRowSeeds x = new OneRowSeeds();
        x.sow(2);
        write(x, "3,1");
        due("undo()", x.undo(), 0);
        due("length", x.count(PAD), 3);
        due("load()", x.load(), 4);
        position(x, "3,1/0");
    }

    @Says("everything except the pad, the slots and the history is as it was before it.")
    static void p19_undo_leavesTheSlots() {
        OneRowSeeds x = new OneRowSeeds();
        x.sow(2);
        x.save(0);
        x.undo();
        due("restore(0)", x.restore(0), 1);
        position(x, "2,2,0,3/1");
        x.undo();
        position(x, "2,2,2,2/0");
        due("restore(0)", x.restore(0), 1);
        due("restore(1)", x.restore(1), NOT_POSSIBLE);
    }

    @Says("each method that is a change, and returns no error, records the state before it")
    static void p19_undo_isNoChangeItself() {
        OneRowSeeds x = new OneRowSeeds();
        x.begin(3, 1);
        x.begin(3, 2);
        due("undo()", x.undo(), 1);
        position(x, "1,1,1/0");
        due("undo()", x.undo(), 0);
        position(x, "2,2,2,2/0");
        due("undo()", x.undo(), NOT_POSSIBLE);
    }

    @Says("each method that is a change, and returns no error, records the state before it")
    static void p19_undo_errorsAreNotRecorded() {
        OneRowSeeds x = new OneRowSeeds();
        x.begin(3, 1);
        x.set(3, 0);
        x.begin(6, 7);
        x.load();
        x.loadExact(2, 4);
        x.sow(3);
        x.back();
        x.restore(0);
        x.restore(2);
        due("undoable", x.count(UNDOABLE), 1);
        due("undo()", x.undo(), 0);
        position(x, "2,2,2,2/0");
    }

    @Says("each method that is a change, and returns no error, records the state before it")
    static void p19_undo_looksTextsAndSavingAreNotRecorded() {
        OneRowSeeds x = new OneRowSeeds();
        x.pit(0);
        x.count(3);
        x.move(0);
        x.ifSown(0, 4);
        x.ifSownHas(0, 1);
        x.best(1);
        x.exact(3, 1);
        x.put('1');
        x.fault();
        x.wipe();
        x.save(0);
        due("undoable", x.count(UNDOABLE), 0);
        due("undo()", x.undo(), NOT_POSSIBLE);
    }

    @Says("records the state before it (also if nothing is different then)")
    static void p19_undo_changesWithoutADifference() {
        OneRowSeeds x = new OneRowSeeds();
        x.set(RELAY, 1);
        x.begin(4, 2);
        write(x, "2,2,2,2").load();
        x.save(0);
        x.restore(0);
        x.undo();
        due("undoable", x.count(UNDOABLE), 3);
        x.loadExact(2, 1);
        x.sow(1);
        x.play();
        due("undoable", x.count(UNDOABLE), 6);
        due("undo() of play()", x.undo(), 5);
        position(x, "0,0/1");
    }

    // ---- promise 20: save

    @Says("BAD_VALUE if there is no such slot.")
    static void p20_save_slotTooSmallOrTooLarge() {
        for (int slot : new int[] {MIN, -1, 2, 3, MAX}) {
            due("save(" + slot + ")", new OneRowSeeds().save(slot), BAD_VALUE);
        }
    }

    @Says("A call that returns an error changes nothing.")
    static void p20_save_refusedChangesNothing() {
        busyChangesNothing("save(-1)", x -> x.save(-1), BAD_VALUE);
        busyChangesNothing("save(2)", x -> x.save(2), BAD_VALUE);
    }

    @Says("`slot`: 0 or 1")
    static void p20_save_bothSlots() {
        OneRowSeeds x = new OneRowSeeds();
        due("save(0)", x.save(0), 0);
        due("the other one", x.restore(1), NOT_POSSIBLE);
        x.sow(2);
        due("save(1)", x.save(1), 1);
        x.begin(2, 1);
        due("restore(0)", x.restore(0), 0);
        position(x, "2,2,2,2/0");
        due("restore(1)", x.restore(1), 1);
        position(x, "2,2,0,3/1");
        x = new OneRowSeeds();
        x.save(1);
        due("the other one", x.restore(0), NOT_POSSIBLE);
        due("restore(1)", x.restore(1), 0);
    }

    @Says("Returns how many seeds the store has")
    static void p20_save_emptyAndFullStore() {
        due("save(0)", new OneRowSeeds().save(0), 0);
        due("save(1)", loaded("0,0/14", 1, 0, 0).save(1), 14);
        due("save(0)", loaded("0,0,0,1,0,0/13", 1, 0, 0).save(0), 13);
    }

    @Says("and overwrites what was saved there.")
    static void p20_save_overAFullSlot() {
        OneRowSeeds x = loaded("1,2,3,1,1,1/2", 0, 1, 1);
        x.save(0);
        x.save(1);
        x.set(RELAY, 1);
        x.set(EXACT, 0);
        x.set(LIVES, 0);
        x.begin(2, 1);
        x.sow(1);
        due("save(0)", x.save(0), 1);
        x.begin(3, 3);
        due("restore(0)", x.restore(0), 1);
        position(x, "1,0/1");
        due("lives", x.count(LEFT), 0);
        due("RELAY", x.count(IS_RELAY), 1);
        kept(x, "1");
        due("restore(1)", x.restore(1), 2);
        position(x, "1,2,3,1,1,1/2");
        due("RELAY", x.count(IS_RELAY), 0);
        due("lives", x.count(LEFT), 1);
    }

    @Says("each method that is a change, and returns no error, records the state before it")
    static void p20_save_isNoChange() {
        OneRowSeeds x = new OneRowSeeds();
        x.sow(2);
        x.save(0);
        x.save(1);
        due("undoable", x.count(UNDOABLE), 1);
        due("undo()", x.undo(), 0);
        position(x, "2,2,2,2/0");
        x = rounds(8);
        x.save(0);
        for (int i = 1; i <= 6; i++) {
            due("undo()", x.undo(), 6 - i);
            position(x, positionOf(rounds(8 - i)));
        }
    }

    @Says("Saves everything except the pad, the history and the slots in a slot")
    static void p20_save_laterChangesDoNotReachTheSlot() {
        OneRowSeeds x = new OneRowSeeds();
        x.sow(2);
        x.save(0);
        x.sow(3);
        x.set(RELAY, 0);
        x.back();
        x.back();
        x.sow(0);
        due("restore(0)", x.restore(0), 1);
        position(x, "2,2,0,3/1");
        kept(x, "2");
        due("RELAY", x.count(IS_RELAY), 1);
        due("how", x.count(HOW), GOES_ON);
        due("back()", x.back(), 2);
        position(x, "2,2,2,2/0");
    }

    // ---- promise 21: restore

    @Says("BAD_VALUE if there is no such slot")
    static void p21_restore_slotTooSmallOrTooLarge() {
        for (int slot : new int[] {MIN, -1, 2, 3, MAX}) {
            due("restore(" + slot + ")", busy(false).restore(slot), BAD_VALUE);
        }
    }

    @Says("NOT_POSSIBLE if nothing was saved in it.")
    static void p21_restore_emptySlot() {
        OneRowSeeds x = new OneRowSeeds();
        due("restore(0)", x.restore(0), NOT_POSSIBLE);
        due("restore(1)", x.restore(1), NOT_POSSIBLE);
        x.save(1);
        due("restore(0)", x.restore(0), NOT_POSSIBLE);
        due("restore(1)", x.restore(1), 0);
        due("undo()", x.undo(), 0);
        due("restore(0)", x.restore(0), NOT_POSSIBLE);
    }

    @Says("it names its errors in the order in which they are checked, and the first one that applies is returned.")
    static void p21_restore_badValueComesAheadOfNotPossible() {
        for (int slot : new int[] {MIN, -1, 2, 3, MAX}) {
            due("restore(" + slot + ")", new OneRowSeeds().restore(slot), BAD_VALUE);
        }
    }

    @Says("A call that returns an error changes nothing.")
    static void p21_restore_refusedChangesNothing() {
        busyChangesNothing("restore(-1)", x -> x.restore(-1), BAD_VALUE);
        busyChangesNothing("restore(2)", x -> x.restore(2), BAD_VALUE);
        changesNothing("restore(0)", Boundaries::lost, x -> x.restore(0), NOT_POSSIBLE);
        changesNothing("restore(1)", () -> rounds(9), x -> x.restore(1), NOT_POSSIBLE);
    }

    @Says("Restores what was saved last in a slot, which keeps it.")
    static void p21_restore_slotKeepsIt() {
        OneRowSeeds x = new OneRowSeeds();
        x.sow(2);
        x.save(0);
        for (int i = 0; i < 3; i++) {
            x.begin(2, 1);
            due("restore(0)", x.restore(0), 1);
            position(x, "2,2,0,3/1");
            x.sow(3);
            x.set(RELAY, 0);
            x.set(RELAY, 1);
            kept(x, "32");
        }
        due("restore(0)", x.restore(0), 1);
        kept(x, "2");
    }

    @Says("Restores what was saved last in a slot, which keeps it.")
    static void p21_restore_everythingThatWasSaved() {
        OneRowSeeds x = loaded("1,0,2/3", 0, 0, 1);
        x.sow(0);
        x.sow(0);
        x.save(1);
        x.set(RELAY, 1);
        x.set(EXACT, 1);
        x.set(LIVES, 0);
        x.begin(6, 2);
        x.sow(4);
        due("restore(1)", x.restore(1), 3);
        position(x, "0,1,2/3");
        int[] want = {3, 3, 6, GOES_ON, 0, 1, 1, 1, 6, 0, 0, 1};
        for (int what = 0; what < want.length; what++) {
            due("count(" + what + ")", x.count(what), want[what]);
        }
        due("back()", x.back(), 0);
        due("the life comes back", x.count(LEFT), 1);
        position(x, "1,0,2/3");
        due("back()", x.back(), NOT_POSSIBLE);
    }

    @Says("Restores what was saved last in a slot, which keeps it.")
    static void p21_restore_lostWonAndStuckRounds() {
        int[] how = {LOST, WON, STUCK};
        OneRowSeeds[] rounds = {lost(), won(), stuck()};
        for (int i = 0; i < 3; i++) {
            OneRowSeeds x = rounds[i];
            x.save(0);
            x.set(EXACT, 0);
            x.begin(4, 2);
            x.restore(0);
            due("how", x.count(HOW), how[i]);
            due("sow(0)", x.sow(0), NOT_POSSIBLE);
            due("moves", x.count(MOVES), 1);
        }
    }

    @Says("Saves everything except the pad, the history and the slots in a slot")
    static void p21_restore_leavesPadAndHistory() {
        OneRowSeeds x = new OneRowSeeds();
        write(x, "3,1").load();
        write(x, "5");
        x.save(0);
        x.wipe();
        write(x, "1,1,1");
        x.begin(2, 1);
        due("restore(0)", x.restore(0), 0);
        due("length", x.count(PAD), 5);
        due("undoable", x.count(UNDOABLE), 3);
        due("undo()", x.undo(), 2);
        position(x, "1,1/0");
        due("undo()", x.undo(), 1);
        position(x, "3,1/0");
        due("undo()", x.undo(), 0);
        position(x, "2,2,2,2/0");
        due("load()", x.load(), 3);
    }

    @Says("Saves everything except the pad, the history and the slots in a slot")
    static void p21_restore_leavesTheOtherSlot() {
        OneRowSeeds x = new OneRowSeeds();
        x.save(0);
        x.sow(2);
        x.save(1);
        due("restore(0)", x.restore(0), 0);
        due("restore(1)", x.restore(1), 1);
        position(x, "2,2,0,3/1");
        due("restore(0)", x.restore(0), 0);
        position(x, "2,2,2,2/0");
    }

    @Says("Returns how many seeds the store has then")
    static void p21_restore_emptyAndFullStore() {
        OneRowSeeds x = loaded("0,0/14", 1, 0, 0);
        x.save(0);
        x.begin(2, 1);
        x.save(1);
        due("restore(0)", x.restore(0), 14);
        due("restore(1)", x.restore(1), 0);
    }

    @Says("This is a change.")
    static void p21_restore_isAChange() {
        isAChange("restore(0)", () -> busy(false), x -> x.restore(0));
        isAChange("restore(1)", () -> busy(false), x -> x.restore(1));
        isAChange("restore(1), when six can be undone", () -> busy(true), x -> x.restore(1));
    }

    public static void main(String[] args) {
        runAll(TextsAndSavingBoundariesTest.class, 16, 21, args);
    }
}
