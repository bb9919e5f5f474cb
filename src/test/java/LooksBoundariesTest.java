/** Promises 9 to 15: a test for each sentence that names a boundary. */
public final class LooksBoundariesTest extends Boundaries {

    // ---- promise 9: pit

    @Says("NO_SUCH if there is no such pit.")
    static void p09_pit_tooSmall() {
        due("pit(-1)", new OneRowSeeds().pit(-1), NO_SUCH);
        due("pit(MIN)", new OneRowSeeds().pit(MIN), NO_SUCH);
    }

    @Says("NO_SUCH if there is no such pit.")
    static void p09_pit_tooLarge() {
        for (int pits = 2; pits <= 6; pits++) {
            OneRowSeeds x = new OneRowSeeds();
            x.begin(pits, 2);
            due("the last pit", x.pit(pits - 1), 2);
            x.sow(pits - 2);
            due("pit(" + pits + "), the store", x.pit(pits), NO_SUCH);
            due("pit(" + (pits + 1) + ")", x.pit(pits + 1), NO_SUCH);
            due("pit(8)", x.pit(8), NO_SUCH);
            due("pit(MAX)", x.pit(MAX), NO_SUCH);
        }
    }

    @Says("NO_SUCH if there is no such pit.")
    static void p09_pit_ofARowThatWasLonger() {
        OneRowSeeds x = new OneRowSeeds();
        x.begin(6, 2);
        x.begin(2, 2);
        due("pit(1)", x.pit(1), 2);
        due("pit(2)", x.pit(2), NO_SUCH);
        x.undo();
        due("pit(5)", x.pit(5), 2);
    }

    @Says("Returns the seeds of a pit.")
    static void p09_pit_emptyAndFull() {
        OneRowSeeds x = loaded("14,0", 1, 0, 0);
        due("pit(0)", x.pit(0), 14);
        due("pit(1)", x.pit(1), 0);
        x = loaded("0,0,0,0,0,14", 1, 0, 0);
        due("pit(0)", x.pit(0), 0);
        due("pit(5)", x.pit(5), 14);
    }

    @Says("There is a row of 2 to 6 pits (4 at first), numbered from the one that is farthest from the store")
    static void p09_pit_firstIsFarthestFromTheStore() {
        OneRowSeeds x = loaded("0,1,2,3,4,3/1", 1, 0, 0);
        int[] want = {0, 1, 2, 3, 4, 3};
        for (int pit = 0; pit < 6; pit++) {
            due("pit(" + pit + ")", x.pit(pit), want[pit]);
        }
        due("the one that is next to the store", loaded("0,1", 1, 0, 0).ifSown(1, 0), 2);
    }

    @Says("A call that returns an error changes nothing.")
    static void p09_pit_changesNothing() {
        busyChangesNothing("pit(-1)", x -> x.pit(-1), NO_SUCH);
        busyChangesNothing("pit(5)", x -> x.pit(5), NO_SUCH);
        busyChangesNothing("pit(3)", x -> x.pit(3), 0);
    }

    // ---- promise 10: count

    @Says("BAD_VALUE if what is out of range.")
    static void p10_count_whatTooSmall() {
        due("count(-1)", new OneRowSeeds().count(-1), BAD_VALUE);
        due("count(MIN)", new OneRowSeeds().count(MIN), BAD_VALUE);
    }

    @Says("BAD_VALUE if what is out of range.")
    static void p10_count_whatTooLarge() {
        due("count(14)", new OneRowSeeds().count(14), BAD_VALUE);
        due("count(15)", new OneRowSeeds().count(15), BAD_VALUE);
        due("count(MAX)", new OneRowSeeds().count(MAX), BAD_VALUE);
    }

    @Says("A call that returns an error changes nothing.")
    static void p10_count_changesNothing() {
        busyChangesNothing("count(-1)", x -> x.count(-1), BAD_VALUE);
        busyChangesNothing("count(14)", x -> x.count(14), BAD_VALUE);
        busyChangesNothing("count(0)", x -> x.count(PITS), 5);
        busyChangesNothing("count(2)", x -> x.count(ALL), 10);
    }

    @Says("0 pits")
    static void p10_count_0_pitsFewestAndMost() {
        OneRowSeeds x = new OneRowSeeds();
        for (int pits = 2; pits <= 6; pits++) {
            x.begin(pits, 1);
            due("count(0)", x.count(0), pits);
        }
    }

    @Says("1 seeds in the store")
    static void p10_count_1_storeEmptyAndFull() {
        for (int seeds = 0; seeds <= 14; seeds++) {
            due("count(1)", loaded((14 - seeds) + ",0/" + seeds, 1, 0, 0).count(1), seeds);
            due("count(1)", loaded("0,0,0,0,0," + (14 - seeds) + "/" + seeds, 1, 0, 0).count(1), seeds);
        }
    }

    @Says("2 all seeds")
    static void p10_count_2_allSeedsFewestAndMost() {
        for (int seeds = 1; seeds <= 14; seeds++) {
            due("count(2)", loaded("0,0/" + seeds, 1, 0, 0).count(2), seeds);
            due("count(2)", loaded("0,0,0,0,0," + seeds, 1, 0, 0).count(2), seeds);
            due("count(2)", loaded("0," + (seeds - 1) + ",1/0", 1, 0, 0).count(2), seeds);
        }
        due("count(2)", loaded("1,2,3,4,1,1/2", 1, 0, 0).count(2), 14);
    }

    @Says("3 how the round is: 0 goes on, 1 won, 2 lost, 3 stuck")
    static void p10_count_3_goesOn() {
        due("count(3)", new OneRowSeeds().count(3), 0);
        due("one seed that can be sown", loaded("1,0/13", 1, 0, 0).count(3), 0);
        due("one pit that can be sown exactly", loaded("6,1,1,0,0,0", 1, 1, 0).count(3), 0);
    }

    @Says("3 how the round is: 0 goes on, 1 won, 2 lost, 3 stuck")
    static void p10_count_3_won() {
        due("count(3)", won().count(3), 1);
        due("with EXACT", loaded("0,0/1", 1, 1, 0).count(3), 1);
    }

    @Says("3 how the round is: 0 goes on, 1 won, 2 lost, 3 stuck")
    static void p10_count_3_lost() {
        OneRowSeeds x = lost();
        due("count(3)", x.count(3), 2);
        x.set(EXACT, 1);
        due("it is not stuck with EXACT", x.count(3), 2);
        x.set(LIVES, 1);
        due("it stays lost", x.count(3), 2);
    }

    @Says("A round in which no pit can be sown, though it is neither won nor lost, is stuck.")
    static void p10_count_3_stuck() {
        OneRowSeeds x = stuck();
        due("count(3)", x.count(3), 3);
        x.set(EXACT, 0);
        due("without EXACT", x.count(3), 0);
        x.set(EXACT, 1);
        due("with EXACT", x.count(3), 3);
    }

    @Says("4 lives that are left")
    static void p10_count_4_noneAndOne() {
        OneRowSeeds x = loaded("1,0,2", 1, 0, 1);
        due("count(4)", x.count(4), 1);
        x.sow(0);
        due("count(4) behind a wrong move", x.count(4), 0);
        x.sow(1);
        due("count(4) of a lost round", x.count(4), 0);
        due("count(4) of a lost round without lives", lost().count(4), 0);
        x = loaded("1,0,1", 1, 0, 1);
        x.sow(2);
        due("count(4) behind a right move", x.count(4), 1);
    }

    @Says("5 moves of the round so far (those that were taken back do not count)")
    static void p10_count_5_movesThatWereTakenBackDoNotCount() {
        OneRowSeeds x = new OneRowSeeds();
        due("none", x.count(5), 0);
        for (int i = 0; i < 5; i++) {
            x.sow(2);
            due("one", x.count(5), 1);
            x.back();
            due("none", x.count(5), 0);
        }
        x.play();
        due("those of play()", x.count(5), 6);
        x.begin(4, 2);
        due("none of the round before", x.count(5), 0);
    }

    @Says("6 moves that are kept")
    static void p10_count_6_noneAndTheMost() {
        OneRowSeeds x = new OneRowSeeds();
        due("none", x.count(6), 0);
        x.sow(2);
        due("one", x.count(6), 1);
        x.back();
        due("none", x.count(6), 0);
        x.set(EXACT, 1);
        x.loadExact(6, 14);
        x.play();
        due("all of a long round", x.count(6), 14);
        x.begin(2, 1);
        due("none of the round before", x.count(6), 0);
    }

    @Says("7 laps of the latest move that is kept (NONE)")
    static void p10_count_7_noneIsKept() {
        OneRowSeeds x = new OneRowSeeds();
        due("count(7)", x.count(7), NONE);
        x.sow(3);
        due("count(7)", x.count(7), 2);
        x.back();
        due("count(7)", x.count(7), NONE);
        x.sow(3);
        x.begin(4, 2);
        due("none of the round before", x.count(7), NONE);
        due("won at once", loaded("0,0/2", 1, 0, 0).count(7), NONE);
    }

    @Says("7 laps of the latest move that is kept (NONE)")
    static void p10_count_7_theLatestOne() {
        OneRowSeeds x = new OneRowSeeds();
        x.sow(2);
        due("one lap", x.count(7), 1);
        x.sow(3);
        due("two laps", x.count(7), 2);
        x.back();
        due("one lap", x.count(7), 1);
    }

    @Says("8 pits that can be sown now, as a bit mask")
    static void p10_count_8_noPitAndAllPits() {
        for (int pits = 2; pits <= 6; pits++) {
            OneRowSeeds x = new OneRowSeeds();
            x.begin(pits, 1);
            due("all of " + pits, x.count(8), (1 << pits) - 1);
        }
        due("won", won().count(8), 0);
        due("lost", lost().count(8), 0);
        due("stuck", stuck().count(8), 0);
    }

    @Says("8 pits that can be sown now, as a bit mask")
    static void p10_count_8_emptyPitsCannot() {
        for (int pit = 0; pit < 6; pit++) {
            StringBuilder text = new StringBuilder("0,0,0,0,0,0");
            text.setCharAt(2 * pit, '1');
            due("count(8) of " + text, loaded(text.toString(), 1, 0, 0).count(8), 1 << pit);
        }
        due("the store has no bit", loaded("1,0,1/5", 1, 0, 0).count(8), 5);
    }

    @Says("If EXACT is 1, a pit can only be sown if the last seed of its first lap comes into the store.")
    static void p10_count_8_exactPitsAlone() {
        due("all of them", loaded("4,3,2,1", 1, 1, 0).count(8), 15);
        due("none of them", loaded("3,2,1,2", 1, 1, 0).count(8), 0);
        due("two of them", loaded("4,2,2,2", 1, 1, 0).count(8), 5);
        due("all but the exact ones, too", loaded("4,2,2,2", 1, 0, 0).count(8), 15);
    }

    @Says("9 to 11 the settings")
    static void p10_count_9to11_bothValues() {
        for (int values = 0; values < 8; values++) {
            OneRowSeeds x = new OneRowSeeds();
            for (int setting = 0; setting < 3; setting++) {
                x.set(setting, values >> setting & 1);
            }
            for (int setting = 0; setting < 3; setting++) {
                due("count(" + (9 + setting) + ")", x.count(9 + setting), values >> setting & 1);
            }
        }
    }

    @Says("12 the length of the pad")
    static void p10_count_12_emptyAndFull() {
        OneRowSeeds x = new OneRowSeeds();
        for (int length = 0; length <= 40; length++) {
            due("count(12)", x.count(12), length);
            x.put('1');
        }
        due("count(12) of a full pad", x.count(12), 40);
        x.wipe();
        due("count(12)", x.count(12), 0);
    }

    @Says("13 how many changes can be undone")
    static void p10_count_13_noneAndTheMost() {
        OneRowSeeds x = new OneRowSeeds();
        for (int changes = 0; changes <= 8; changes++) {
            due("count(13)", x.count(13), Math.min(changes, 6));
            x.begin(4, 2);
        }
        for (int left = 5; left >= 0; left--) {
            x.undo();
            due("count(13)", x.count(13), left);
        }
        x.undo();
        due("count(13)", x.count(13), 0);
    }

    // ---- promise 11: move

    @Says("NO_SUCH if ago is below 0")
    static void p11_move_agoBelow0() {
        OneRowSeeds x = new OneRowSeeds();
        x.sow(2);
        due("move(-1)", x.move(-1), NO_SUCH);
        due("move(MIN)", x.move(MIN), NO_SUCH);
    }

    @Says("NONE (-6) is not an error; it is returned only if no error applies.")
    static void p11_move_agoBelow0WhenNoneIsKept() {
        due("move(-1)", new OneRowSeeds().move(-1), NO_SUCH);
        due("move(MIN)", new OneRowSeeds().move(MIN), NO_SUCH);
    }

    @Says("NONE if not so many are kept.")
    static void p11_move_noneIsKept() {
        OneRowSeeds x = new OneRowSeeds();
        due("move(0)", x.move(0), NONE);
        due("move(1)", x.move(1), NONE);
        x.sow(2);
        x.back();
        due("move(0) when it is taken back", x.move(0), NONE);
        x.sow(2);
        x.begin(4, 2);
        due("move(0) of the round before", x.move(0), NONE);
    }

    @Says("NONE if not so many are kept.")
    static void p11_move_notSoManyAreKept() {
        OneRowSeeds x = new OneRowSeeds();
        x.sow(2);
        x.sow(3);
        due("the oldest one", x.move(1), 2);
        due("one more", x.move(2), NONE);
        due("move(19)", x.move(19), NONE);
        due("move(20)", x.move(20), NONE);
        due("move(MAX)", x.move(MAX), NONE);
        x.back();
        due("the one that was taken back", x.move(1), NONE);
    }

    @Says("`ago`: 0 for the latest one, and so on")
    static void p11_move_0IsTheLatestOne() {
        OneRowSeeds x = new OneRowSeeds();
        x.sow(2);
        due("move(0)", x.move(0), 2);
        x.sow(0);
        due("move(0)", x.move(0), 0);
        due("move(1)", x.move(1), 2);
    }

    @Says("A call that returns an error changes nothing.")
    static void p11_move_changesNothing() {
        busyChangesNothing("move(-1)", x -> x.move(-1), NO_SUCH);
        busyChangesNothing("move(2)", x -> x.move(2), NONE);
        changesNothing("move(0)", () -> busy(false), x -> x.move(0), 3);
        changesNothing("move(0)", () -> busy(true), x -> x.move(0), 0);
    }

    // ---- promise 12: ifSown

    @Says("NO_SUCH if there is no such pit")
    static void p12_ifSown_pitTooSmall() {
        for (int what = 0; what <= 4; what++) {
            due("ifSown(-1, " + what + ")", new OneRowSeeds().ifSown(-1, what), NO_SUCH);
            due("ifSown(MIN, " + what + ")", new OneRowSeeds().ifSown(MIN, what), NO_SUCH);
        }
    }

    @Says("NO_SUCH if there is no such pit")
    static void p12_ifSown_pitTooLarge() {
        for (int pits = 2; pits <= 6; pits++) {
            OneRowSeeds x = new OneRowSeeds();
            x.begin(pits, 1);
            due("the last pit", x.ifSown(pits - 1, 0), pits);
            due("the store", x.ifSown(pits, 0), NO_SUCH);
            due("one more", x.ifSown(pits + 1, 0), NO_SUCH);
            due("MAX", x.ifSown(MAX, 0), NO_SUCH);
        }
    }

    @Says("BAD_VALUE if what is out of range")
    static void p12_ifSown_whatTooSmall() {
        due("ifSown(0, -1)", new OneRowSeeds().ifSown(0, -1), BAD_VALUE);
        due("ifSown(0, MIN)", new OneRowSeeds().ifSown(0, MIN), BAD_VALUE);
    }

    @Says("BAD_VALUE if what is out of range")
    static void p12_ifSown_whatTooLarge() {
        due("ifSown(0, 5)", new OneRowSeeds().ifSown(0, 5), BAD_VALUE);
        due("ifSown(0, 6)", new OneRowSeeds().ifSown(0, 6), BAD_VALUE);
        due("ifSown(0, MAX)", new OneRowSeeds().ifSown(0, MAX), BAD_VALUE);
    }

    private static void cannot(OneRowSeeds x, int pit) {
        for (int what = 0; what <= 4; what++) {
            due("ifSown(" + pit + ", " + what + ")", x.ifSown(pit, what), NOT_POSSIBLE);
        }
    }

    @Says("NOT_POSSIBLE if the round is over, or the pit cannot be sown.")
    static void p12_ifSown_emptyPit() {
        cannot(loaded("0,2", 1, 0, 0), 0);
        cannot(loaded("2,0", 1, 0, 0), 1);
    }

    @Says("NOT_POSSIBLE if the round is over, or the pit cannot be sown.")
    static void p12_ifSown_lostRound() {
        for (int pit = 0; pit < 3; pit++) {
            cannot(lost(), pit);
        }
    }

    @Says("NOT_POSSIBLE if the round is over, or the pit cannot be sown.")
    static void p12_ifSown_wonRound() {
        for (int pit = 0; pit < 3; pit++) {
            cannot(won(), pit);
        }
    }

    @Says("If EXACT is 1, a pit can only be sown if the last seed of its first lap comes into the store.")
    static void p12_ifSown_pitThatIsNotExact() {
        cannot(loaded("1,0,1", 1, 1, 0), 0);
        cannot(loaded("1,1,2", 1, 1, 0), 0);
        cannot(loaded("4,0,1", 1, 1, 0), 0);
        due("an exact one", loaded("7,0,1", 1, 1, 0).ifSown(0, 2), 2);
    }

    @Says("it names its errors in the order in which they are checked, and the first one that applies is returned.")
    static void p12_ifSown_noSuchComesAheadOfTheOthers() {
        due("ifSown(-1, 5)", new OneRowSeeds().ifSown(-1, 5), NO_SUCH);
        due("ifSown(4, -1)", new OneRowSeeds().ifSown(4, -1), NO_SUCH);
        due("ifSown(3, 0) when lost", lost().ifSown(3, 0), NO_SUCH);
        due("ifSown(3, 5) when won", won().ifSown(3, 5), NO_SUCH);
    }

    @Says("it names its errors in the order in which they are checked, and the first one that applies is returned.")
    static void p12_ifSown_badValueComesAheadOfNotPossible() {
        due("an empty pit", loaded("0,2", 1, 0, 0).ifSown(0, 5), BAD_VALUE);
        due("a lost round", lost().ifSown(1, -1), BAD_VALUE);
        due("a won round", won().ifSown(1, 5), BAD_VALUE);
        due("a pit that is not exact", stuck().ifSown(0, 5), BAD_VALUE);
    }

    @Says("A call that returns an error changes nothing.")
    static void p12_ifSown_changesNothing() {
        busyChangesNothing("ifSown(-1, 0)", x -> x.ifSown(-1, 0), NO_SUCH);
        busyChangesNothing("ifSown(4, 5)", x -> x.ifSown(4, 5), BAD_VALUE);
        busyChangesNothing("ifSown(3, 0)", x -> x.ifSown(3, 0), NOT_POSSIBLE);
        for (int what = 0; what <= 4; what++) {
            int asked = what;
            int[] right = {5, 1, 1, 0, GOES_ON};
            OneRowSeeds x = loaded("1,0,2,0,1", 1, 0, 1);
            due("ifSown(4, " + what + ")", x.ifSown(4, what), right[what]);
            int[] wrong = {1, 1, 0, 1, GOES_ON};
            changesNothing("ifSown(0, " + what + ")", () -> loaded("1,0,2,0,1", 1, 0, 1), y -> y.ifSown(0, asked),
                    wrong[what]);
            int[] losing = {1, 1, 0, 1, LOST};
            changesNothing("ifSown(0, " + what + ")", () -> loaded("1,0,2,0,1", 1, 0, 0), y -> y.ifSown(0, asked),
                    losing[what]);
        }
    }

    @Says("0 the place of the last seed (the number of pits for the store)")
    static void p12_ifSown_0_theStoreIsTheNumberOfPits() {
        for (int pits = 2; pits <= 6; pits++) {
            OneRowSeeds x = new OneRowSeeds();
            x.begin(pits, 1);
            due("ifSown(" + (pits - 1) + ", 0)", x.ifSown(pits - 1, 0), pits);
        }
        due("round the row", loaded("5,0", 1, 0, 0).ifSown(0, 0), 2);
    }

    @Says("0 the place of the last seed (the number of pits for the store)")
    static void p12_ifSown_0_behindTheStoreAndInThePitItself() {
        due("behind the store", loaded("0,0,2", 1, 0, 0).ifSown(2, 0), 0);
        due("the pit itself", loaded("0,4,0", 1, 0, 0).ifSown(1, 0), 1);
        due("the next one", loaded("1,0,0", 1, 0, 0).ifSown(0, 0), 1);
        due("of the last lap", new OneRowSeeds().ifSown(0, 0), 0);
    }

    @Says("1 its laps")
    static void p12_ifSown_1_oneLapAndTheMost() {
        due("one", loaded("1,0,0", 1, 0, 0).ifSown(0, 1), 1);
        due("two", loaded("1,1,2", 1, 0, 0).ifSown(0, 1), 2);
        due("one without relay", loaded("1,1,2", 0, 0, 0).ifSown(0, 1), 1);
        due("the most", loaded("2,0,1,0,3,8", 1, 0, 0).ifSown(0, 1), 28);
    }

    @Says("2 seeds that come into the store")
    static void p12_ifSown_2_noneOneAndMore() {
        due("none", loaded("1,0,2/5", 1, 0, 0).ifSown(0, 2), 0);
        due("one", loaded("1,0,2/5", 1, 0, 0).ifSown(2, 2), 1);
        due("five", loaded("14,0", 0, 0, 0).ifSown(0, 2), 5);
        due("nine", loaded("13,0/1", 1, 0, 0).ifSown(0, 2), 9);
    }

    @Says("3 whether it is wrong (1 or 0)")
    static void p12_ifSown_3_rightAndWrong() {
        due("into the store", loaded("1,1,1", 1, 0, 0).ifSown(2, 3), 0);
        due("a relay into the store", loaded("1,1,2", 1, 0, 0).ifSown(0, 3), 0);
        due("into an empty pit", loaded("1,0,1", 1, 0, 0).ifSown(0, 3), 1);
        due("into an empty pit, with a life", loaded("1,0,1", 1, 0, 1).ifSown(0, 3), 1);
        due("into a pit that has seeds, without relay", loaded("1,1,2", 0, 0, 0).ifSown(0, 3), 1);
        due("it wins", loaded("0,0,1", 1, 0, 0).ifSown(2, 3), 0);
    }

    @Says("4 how the round is behind it (as in count(3))")
    static void p12_ifSown_4_goesOn() {
        due("a right move", new OneRowSeeds().ifSown(2, 4), GOES_ON);
        due("a wrong move that takes the life", loaded("1,0,2", 1, 0, 1).ifSown(0, 4), GOES_ON);
    }

    @Says("4 how the round is behind it (as in count(3))")
    static void p12_ifSown_4_won() {
        due("the last seed", loaded("0,1/13", 1, 0, 0).ifSown(1, 4), WON);
        due("the last seed, with EXACT", loaded("0,1", 1, 1, 1).ifSown(1, 4), WON);
        due("the last seed but one", loaded("1,1", 0, 0, 0).ifSown(1, 4), GOES_ON);
    }

    @Says("4 how the round is behind it (as in count(3))")
    static void p12_ifSown_4_lost() {
        due("no life", loaded("1,0,2", 1, 0, 0).ifSown(0, 4), LOST);
        OneRowSeeds x = loaded("1,0,2", 1, 0, 1);
        x.sow(0);
        due("no life left", x.ifSown(1, 4), LOST);
    }

    @Says("4 how the round is behind it (as in count(3))")
    static void p12_ifSown_4_stuck() {
        due("stuck", loaded("1,1,1", 1, 1, 0).ifSown(2, 4), STUCK);
        due("not without EXACT", loaded("1,1,1", 1, 0, 0).ifSown(2, 4), GOES_ON);
    }

    // ---- promise 13: ifSownHas

    @Says("NO_SUCH if there is no such pit or place")
    static void p13_ifSownHas_pitTooSmallOrTooLarge() {
        for (int pits = 2; pits <= 6; pits++) {
            OneRowSeeds x = new OneRowSeeds();
            x.begin(pits, 1);
            for (int pit : new int[] {MIN, -1, pits, pits + 1, MAX}) {
                due("ifSownHas(" + pit + ", 0)", x.ifSownHas(pit, 0), NO_SUCH);
            }
            due("the last pit", x.ifSownHas(pits - 1, pits - 1), 0);
        }
    }

    @Says("NO_SUCH if there is no such pit or place")
    static void p13_ifSownHas_placeTooSmallOrTooLarge() {
        for (int pits = 2; pits <= 6; pits++) {
            OneRowSeeds x = new OneRowSeeds();
            x.begin(pits, 1);
            for (int place : new int[] {MIN, -1, pits + 1, pits + 2, 8, MAX}) {
                due("ifSownHas(0, " + place + ")", x.ifSownHas(0, place), NO_SUCH);
            }
        }
    }

    @Says("`place`: a pit, or the number of pits for the store")
    static void p13_ifSownHas_theNumberOfPitsIsTheStore() {
        for (int pits = 2; pits <= 6; pits++) {
            OneRowSeeds x = new OneRowSeeds();
            x.begin(pits, 2);
            due("the store", x.ifSownHas(pits - 2, pits), 1);
            due("the last pit", x.ifSownHas(pits - 2, pits - 1), 3);
            due("the pit itself", x.ifSownHas(pits - 2, pits - 2), 0);
        }
    }

    @Says("NOT_POSSIBLE if the round is over, or the pit cannot be sown.")
    static void p13_ifSownHas_emptyPit() {
        OneRowSeeds x = loaded("0,2,0", 1, 0, 0);
        for (int place = 0; place <= 3; place++) {
            due("ifSownHas(0, " + place + ")", x.ifSownHas(0, place), NOT_POSSIBLE);
            due("ifSownHas(2, " + place + ")", x.ifSownHas(2, place), NOT_POSSIBLE);
        }
    }

    @Says("NOT_POSSIBLE if the round is over, or the pit cannot be sown.")
    static void p13_ifSownHas_roundIsOver() {
        for (int pit = 0; pit < 3; pit++) {
            due("lost", lost().ifSownHas(pit, 3), NOT_POSSIBLE);
            due("won", won().ifSownHas(pit, 3), NOT_POSSIBLE);
        }
    }

    @Says("If EXACT is 1, a pit can only be sown if the last seed of its first lap comes into the store.")
    static void p13_ifSownHas_pitThatIsNotExact() {
        due("stuck", stuck().ifSownHas(0, 3), NOT_POSSIBLE);
        due("one that is not exact", loaded("1,1,2", 1, 1, 0).ifSownHas(0, 3), NOT_POSSIBLE);
        due("one that is", loaded("3,1,2", 1, 1, 0).ifSownHas(0, 3), 1);
    }

    @Says("it names its errors in the order in which they are checked, and the first one that applies is returned.")
    static void p13_ifSownHas_noSuchComesAheadOfNotPossible() {
        due("an empty pit", loaded("0,2,0", 1, 0, 0).ifSownHas(0, 4), NO_SUCH);
        due("an empty pit", loaded("0,2,0", 1, 0, 0).ifSownHas(0, -1), NO_SUCH);
        due("lost", lost().ifSownHas(3, 0), NO_SUCH);
        due("lost", lost().ifSownHas(1, 4), NO_SUCH);
        due("won", won().ifSownHas(-1, 0), NO_SUCH);
        due("won", won().ifSownHas(2, 4), NO_SUCH);
        due("stuck", stuck().ifSownHas(0, 4), NO_SUCH);
    }

    @Says("A call that returns an error changes nothing.")
    static void p13_ifSownHas_changesNothing() {
        busyChangesNothing("ifSownHas(5, 0)", x -> x.ifSownHas(5, 0), NO_SUCH);
        busyChangesNothing("ifSownHas(4, 6)", x -> x.ifSownHas(4, 6), NO_SUCH);
        busyChangesNothing("ifSownHas(3, 0)", x -> x.ifSownHas(3, 0), NOT_POSSIBLE);
        changesNothing("ifSownHas(0, 1)", () -> loaded("1,0,2", 1, 0, 0), x -> x.ifSownHas(0, 1), 1);
        changesNothing("ifSownHas(0, 1)", () -> loaded("1,0,2", 1, 0, 1), x -> x.ifSownHas(0, 1), 1);
    }

    @Says("Tells the seeds of a place behind a move.")
    static void p13_ifSownHas_emptyAndFullPlaces() {
        OneRowSeeds x = loaded("2,0,1,0,1,9", 0, 0, 0);
        int[] want = {4, 1, 2, 1, 2, 1, 2};
        for (int place = 0; place <= 6; place++) {
            due("ifSownHas(5, " + place + ")", x.ifSownHas(5, place), want[place]);
        }
        due("all seeds in the store", loaded("0,1/13", 1, 0, 0).ifSownHas(1, 2), 14);
        due("an empty row", loaded("0,1/13", 1, 0, 0).ifSownHas(1, 0), 0);
    }

    @Says("(the store is one of them, and so is the pit itself, if it comes again)")
    static void p13_ifSownHas_pitItselfComesAgain() {
        OneRowSeeds x = loaded("3,0", 1, 0, 0);
        due("the pit itself", x.ifSownHas(0, 0), 1);
        due("the store", x.ifSownHas(0, 2), 1);
        x = loaded("14,0", 0, 0, 0);
        due("the pit itself", x.ifSownHas(0, 0), 4);
        due("the next one", x.ifSownHas(0, 1), 5);
        due("the store", x.ifSownHas(0, 2), 5);
    }

    // ---- promise 14: best

    private static void bests(OneRowSeeds x, int store, int first, int positions, int fewest) {
        due("best(0)", x.best(0), store);
        due("best(1)", x.best(1), first);
        due("best(2)", x.best(2), positions);
        due("best(3)", x.best(3), fewest);
    }

    @Says("BAD_VALUE if what is out of range.")
    static void p14_best_whatTooSmall() {
        due("best(-1)", new OneRowSeeds().best(-1), BAD_VALUE);
        due("best(MIN)", new OneRowSeeds().best(MIN), BAD_VALUE);
        due("best(-1) when lost", lost().best(-1), BAD_VALUE);
    }

    @Says("BAD_VALUE if what is out of range.")
    static void p14_best_whatTooLarge() {
        due("best(4)", new OneRowSeeds().best(4), BAD_VALUE);
        due("best(5)", new OneRowSeeds().best(5), BAD_VALUE);
        due("best(MAX)", new OneRowSeeds().best(MAX), BAD_VALUE);
        due("best(4) when won", won().best(4), BAD_VALUE);
    }

    @Says("A call that returns an error changes nothing.")
    static void p14_best_changesNothing() {
        busyChangesNothing("best(-1)", x -> x.best(-1), BAD_VALUE);
        busyChangesNothing("best(4)", x -> x.best(4), BAD_VALUE);
        for (int what = 0; what <= 3; what++) {
            int asked = what;
            int[] want = {8, 2, 11, 6};
            changesNothing("best(" + what + ")", OneRowSeeds::new, x -> x.best(asked), want[what]);
            int[] withALife = {5, 0, 9, 3};
            changesNothing("best(" + what + ")", () -> loaded("4,1", 1, 0, 1), x -> x.best(asked), withALife[what]);
        }
    }

    @Says("(also behind one of no moves, and behind one whose last move loses the round)")
    static void p14_best_0_playOfNoMoves() {
        // The only move loses, and brings nothing into the store.
        due("best(0)", loaded("1,0/4", 1, 0, 0).best(0), 4);
        due("best(0) of a won round", loaded("0,0/14", 1, 0, 0).best(0), 14);
        due("best(0) of a stuck round", loaded("1,2/3", 1, 1, 0).best(0), 3);
        due("best(0) of a lost round", lost().best(0), 1);
    }

    @Says("(also behind one of no moves, and behind one whose last move loses the round)")
    static void p14_best_0_playWhoseLastMoveLoses() {
        due("best(0)", loaded("0,2", 1, 0, 0).best(0), 1);
        due("best(0)", loaded("0,8", 0, 0, 0).best(0), 3);
        due("best(0) behind a life", loaded("0,8", 0, 0, 1).best(0), 4);
    }

    @Says("1 the first move of the first best play: its pit (NONE if the store has the best store already)")
    static void p14_best_1_theStoreHasTheBestStoreAlready() {
        due("a move could be made, but it brings nothing", loaded("1,0/4", 1, 0, 0).best(1), NONE);
        due("won", loaded("0,0/14", 1, 0, 0).best(1), NONE);
        due("stuck", loaded("1,2/3", 1, 1, 0).best(1), NONE);
        due("lost", lost().best(1), NONE);
    }

    @Says("The first best play makes, in each position, the move with the lowest pit behind which the best store "
            + "can still be reached.")
    static void p14_best_1_lowestPitOfMore() {
        // Both pits lead to all five; pit 1 leads there in fewer moves.
        due("best(1)", loaded("4,1", 1, 0, 1).best(1), 0);
        due("best(1), both lose", loaded("3,2", 0, 0, 0).best(1), 0);
        due("best(1), one wrong and one right", loaded("1,0,1", 0, 0, 1).best(1), 0);
        due("best(1) of all six", loaded("1,1,1,1,1,1", 1, 0, 0).best(1) >= 0 ? 1 : 0, 1);
    }

    @Says("The first best play makes, in each position, the move with the lowest pit behind which the best store "
            + "can still be reached.")
    static void p14_best_1_notALowerPitBehindWhichItCannot() {
        due("best(1)", loaded("0,2,1", 1, 1, 0).best(1), 2);
        due("best(1) of the smallest pit that helps", new OneRowSeeds().best(1), 2);
        due("best(1), the farthest pit is the only one", loaded("2,0", 1, 0, 0).best(1), 0);
        due("best(1), the last pit is the only one", loaded("0,0,0,0,0,1", 1, 0, 0).best(1), 5);
    }

    @Says("2 positions in which the round is not lost that can come in any play, with that of now")
    static void p14_best_2_onlyThatOfNow() {
        due("won", loaded("0,0/5", 1, 0, 1).best(2), 1);
        due("stuck", loaded("1,2", 1, 1, 0).best(2), 1);
        due("each move loses", loaded("1,0", 1, 0, 0).best(2), 1);
        due("each move loses, with seeds in the store", loaded("0,2", 1, 0, 0).best(2), 1);
    }

    @Says("unlike ones by the seeds of the pits and the lives that are left (0 if it is lost now)")
    static void p14_best_2_lost() {
        due("best(2)", lost().best(2), 0);
        OneRowSeeds x = loaded("1,0,2", 1, 0, 1);
        x.sow(0);
        x.sow(1);
        due("best(2) behind a life", x.best(2), 0);
    }

    @Says("unlike ones by the seeds of the pits and the lives that are left (0 if it is lost now)")
    static void p14_best_2_alikePitsWithAnotherLife() {
        // 1,1 and 1,0 with the life; 1,0 and 0,1 and 0,0 without it.
        due("best(2)", loaded("1,1", 1, 0, 1).best(2), 5);
        due("best(2) without a life: 1,1 and 1,0", loaded("1,1", 1, 0, 0).best(2), 2);
    }

    @Says("unlike ones by the seeds of the pits and the lives that are left (0 if it is lost now)")
    static void p14_best_2_onePositionInTwoWays() {
        // 1,0,1 and 1,0,0 with the life; 0,1,1 and, in two ways, 0,1,0 without it.
        due("best(2)", loaded("1,0,1", 0, 0, 1).best(2), 4);
    }

    @Says("2 positions in which the round is not lost that can come in any play, with that of now")
    static void p14_best_2_theMost() {
        due("best(2)", loaded("6,3,1,2,1,1", 1, 0, 1).best(2), 2011);
    }

    @Says("3 the fewest moves of a play that wins (0 if it is won now; NONE if none does)")
    static void p14_best_3_wonNow() {
        due("best(3)", won().best(3), 0);
        due("best(3)", loaded("0,0,0,0,0,0/14", 1, 1, 1).best(3), 0);
    }

    @Says("3 the fewest moves of a play that wins (0 if it is won now; NONE if none does)")
    static void p14_best_3_noPlayWins() {
        due("lost", lost().best(3), NONE);
        due("stuck", stuck().best(3), NONE);
        due("each move loses", loaded("1,0", 1, 0, 0).best(3), NONE);
        due("all are brought but some", loaded("2,2,2,2,2,2", 1, 0, 0).best(3), NONE);
    }

    @Says("3 the fewest moves of a play that wins (0 if it is won now; NONE if none does)")
    static void p14_best_3_oneMoveAndTheMost() {
        due("one", loaded("0,1", 1, 0, 0).best(3), 1);
        due("three, though the first best play has four", loaded("4,1", 1, 0, 1).best(3), 3);
        due("fourteen", loaded("6,4,2,0,2,0", 1, 1, 0).best(3), 14);
    }

    @Says("A play is a row of moves that can be made one after the other from the position of now on.")
    static void p14_best_settingsOfNowCount() {
        OneRowSeeds x = loaded("1,1,2", 1, 1, 0);
        bests(x, 0, NONE, 1, NONE);
        x.set(EXACT, 0);
        due("with relays, without EXACT", x.best(1), 0);
        x.set(RELAY, 0);
        due("without relays each move loses", x.best(2), 1);
        due("and one brings a seed", x.best(0), 1);
        due("that of pit 2", x.best(1), 2);
        x.set(LIVES, 1);
        due("LIVES is for later rounds", x.best(2), 1);
    }

    @Says("A play is a row of moves that can be made one after the other from the position of now on.")
    static void p14_best_settingsOfNowCountEachTime() {
        // Answers that were found with other settings must not be kept.
        OneRowSeeds[] rounds = {loaded("3,0,5", 1, 0, 1), loaded("5,5,0/1", 1, 0, 0), loaded("2,2,1,4/4", 1, 0, 0)};
        int[][] without = {{7, 2, 20, NONE}, {2, 0, 1, NONE}, {5, 3, 1, NONE}};
        int[][] with = {{8, 0, 25, 6}, {11, 0, 9, 6}, {13, 3, 24, 7}};
        for (int i = 0; i < rounds.length; i++) {
            for (int times = 0; times < 3; times++) {
                rounds[i].set(RELAY, 0);
                bests(rounds[i], without[i][0], without[i][1], without[i][2], without[i][3]);
                rounds[i].set(RELAY, 1);
                bests(rounds[i], with[i][0], with[i][1], with[i][2], with[i][3]);
            }
        }
    }

    // ---- promise 15: exact

    @Says("BAD_VALUE if an argument is out of range.")
    static void p15_exact_seedsTooFewOrTooMany() {
        for (int seeds : new int[] {MIN, -1, 15, 16, MAX}) {
            for (int distance = 1; distance <= 6; distance++) {
                due("exact(" + seeds + ", " + distance + ")", new OneRowSeeds().exact(seeds, distance), BAD_VALUE);
            }
        }
    }

    @Says("BAD_VALUE if an argument is out of range.")
    static void p15_exact_distanceTooSmallOrTooLarge() {
        for (int distance : new int[] {MIN, -1, 0, 7, 8, MAX}) {
            for (int seeds = 0; seeds <= 14; seeds++) {
                due("exact(" + seeds + ", " + distance + ")", new OneRowSeeds().exact(seeds, distance), BAD_VALUE);
            }
        }
    }

    @Says("(The position of 0 seeds is empty.)")
    static void p15_exact_0Seeds() {
        for (int distance = 1; distance <= 6; distance++) {
            due("exact(0, " + distance + ")", new OneRowSeeds().exact(0, distance), 0);
        }
    }

    private static void exactRow(int seeds, int... fromStore) {
        for (int distance = 1; distance <= 6; distance++) {
            due("exact(" + seeds + ", " + distance + ")", new OneRowSeeds().exact(seeds, distance),
                    fromStore[distance - 1]);
        }
    }

    @Says("with d, the least distance whose pit is empty: this pit gets d seeds, and each one nearer to the store "
            + "becomes 1 less.")
    static void p15_exact_leastDistanceWhosePitIsEmpty() {
        exactRow(1, 1, 0, 0, 0, 0, 0);
        exactRow(2, 0, 2, 0, 0, 0, 0);
        exactRow(3, 1, 2, 0, 0, 0, 0);
        exactRow(4, 0, 1, 3, 0, 0, 0);
        exactRow(5, 1, 1, 3, 0, 0, 0);
        exactRow(6, 0, 0, 2, 4, 0, 0);
        exactRow(7, 1, 0, 2, 4, 0, 0);
        exactRow(8, 0, 2, 2, 4, 0, 0);
        exactRow(9, 1, 2, 2, 4, 0, 0);
        exactRow(10, 0, 1, 1, 3, 5, 0);
        exactRow(11, 1, 1, 1, 3, 5, 0);
    }

    @Says("Returns the seeds of a pit of an exact position.")
    static void p15_exact_mostSeedsAndFarthestPit() {
        exactRow(12, 0, 0, 0, 2, 4, 6);
        exactRow(13, 1, 0, 0, 2, 4, 6);
        exactRow(14, 0, 2, 0, 2, 4, 6);
    }

    @Says("from which all seeds come into the store by moves each of whose last seed comes into the store, "
            + "without going round.")
    static void p15_exact_allSeedsComeIntoTheStore() {
        for (int seeds = 1; seeds <= 14; seeds++) {
            OneRowSeeds x = new OneRowSeeds();
            x.set(EXACT, 1);
            x.loadExact(6, seeds);
            due("best(0) of " + seeds, x.best(0), seeds);
            due("best(3) of " + seeds, x.best(3), seeds);
        }
    }

    @Says("counted from the store on (the pit next to it has the distance 1, and so on without an end)")
    static void p15_exact_hasNothingToDoWithTheRowOfNow() {
        OneRowSeeds x = new OneRowSeeds();
        x.begin(2, 1);
        due("exact(14, 6) beside two pits", x.exact(14, 6), 6);
        due("exact(3, 2)", x.exact(3, 2), 2);
        due("exact(14, 6) of a lost round", lost().exact(14, 6), 6);
    }

    @Says("A call that returns an error changes nothing.")
    static void p15_exact_changesNothing() {
        busyChangesNothing("exact(-1, 1)", x -> x.exact(-1, 1), BAD_VALUE);
        busyChangesNothing("exact(15, 1)", x -> x.exact(15, 1), BAD_VALUE);
        busyChangesNothing("exact(1, 0)", x -> x.exact(1, 0), BAD_VALUE);
        busyChangesNothing("exact(1, 7)", x -> x.exact(1, 7), BAD_VALUE);
        busyChangesNothing("exact(14, 6)", x -> x.exact(14, 6), 6);
    }

    public static void main(String[] args) {
        runAll(LooksBoundariesTest.class, 9, 15, args);
    }
}
