/** The boundary cases of promises 16 to 18, and of the terms of the history. */
final class HistoryBoundaryTest {
    private static final String MOST_STATES = "A history of at most 4 states is kept";
    private static final String OLDEST = "when one more is recorded, the oldest one is dropped";
    private static final String REMOVES = "undo() removes and restores the latest one.";
    private static final String ACTS = "Each call of a method that is described as an act, and returns no error and not NONE, "
        + "records the state that was before it.";
    private static final String STATE = "A state is everything but the text, the history and the snapshot.";

    // ---- promise 16: undo

    @Sentence("NONE if the history is empty.")
    static void promise16UndoOfAnEmptyHistory() {
        Trials.run("undo() = NONE", "undo() = NONE", "count(9) = 0", "count(0) = 0");
    }

    @Sentence({"Removes and restores the latest state of the history.", "Returns the number of states that are left"})
    static void promise16UndoOfTheOnlyState() {
        Trials.run("addKnot() = 0", "count(9) = 1", "undo() = 0", "count(0) = 0", "count(9) = 0", "undo() = NONE");
    }

    @Sentence("NONE if the history is empty.")
    static void promise16UndoOfAHistoryThatWasEmptied() {
        Trials.run("addKnot() = 0", "undo() = 0", "undo() = NONE", "addKnot() = 0", "undo() = 0", "undo() = NONE",
            "count(0) = 0");
    }

    @Sentence({MOST_STATES, "Returns the number of states that are left"})
    static void promise16UndoOfAFullHistory() {
        Trials.run("knots(4)", "count(9) = 4", "undo() = 3", "count(0) = 3", "undo() = 2", "count(0) = 2", "undo() = 1",
            "count(0) = 1", "undo() = 0", "count(0) = 0", "undo() = NONE", "count(0) = 0");
    }

    @Sentence({MOST_STATES, OLDEST})
    static void promise16UndoOfAHistoryThatDroppedItsOldest() {
        Trials.run("knots(5)", "count(9) = 4", "undo() = 3", "count(0) = 4", "undo() = 2", "count(0) = 3", "undo() = 1",
            "count(0) = 2", "undo() = 0", "count(0) = 1", "undo() = NONE", "count(0) = 1");
    }

    @Sentence(OLDEST)
    static void promise16UndoOfAHistoryThatDroppedMany() {
        Trials.run("knots(14)", "count(9) = 4", "undo() = 3", "undo() = 2", "undo() = 1", "undo() = 0", "count(0) = 10",
            "undo() = NONE");
    }

    @Sentence({REMOVES, OLDEST})
    static void promise16UndoAndOneMoreAct() {
        Trials.run("knots(5)", "undo() = 3", "take(0) = 4", "count(9) = 4", "undo() = 3", "count(0) = 4", "count(1) = 0",
            "undo() = 2", "count(0) = 3", "undo() = 1", "undo() = 0", "count(0) = 1", "undo() = NONE");
    }

    @Sentence(REMOVES)
    static void promise16UndoIsNotUndone() {
        Trials.run("knots(3)", "undo() = 2", "undo() = 1", "count(0) = 1", "undo() = 0", "count(0) = 0");
    }

    @Sentence(ACTS)
    static void promise16UndoIsNoAct() {
        Trials.run("knots(2)", "undo() = 1", "count(9) = 1");
    }

    @Sentence(STATE)
    static void promise16UndoOfColours() {
        Trials.run(Nets.PAINTED_K4, "paint(0,3) = 0", "exchange(1,0) = 3", "undo() = 3", "thread(1,2) = 1", "thread(0,2) = NONE",
            "undo() = 2", "thread(0,2) = 0", "count(8) = 0");
    }

    @Sentence(STATE)
    static void promise16UndoFromASmallToTheGreatestNet() {
        Trials.run(Nets.GREATEST_PAINTED, "take(0) = 4", "addKnot() = 4", "removeKnot(0) = 3", "undo() = 3", "undo() = 2",
            "undo() = 1", "count(0) = 14", "count(1) = 21", "count(8) = 0", "count(7) = 0", "knot(13,1) = 4353",
            "thread(20,2) = 2");
    }

    @Sentence(STATE)
    static void promise16UndoToTheEmptyNet() {
        Trials.run("take(2) keep() write(0-1)", "undo() = 0", "count(0) = 0", "count(1) = 0", "count(10) = 3", "restore() = 15",
            "undo() = 0", "readNet() = 2");
    }

    @Sentence({ACTS, "A call that returns an error or NONE changes nothing.", "NONE is no error; it is returned only if no error "
        + "applies."})
    static void promise16UndoBehindRefusedActs() {
        Trials.run("take(2) paint(0,1)", "take(5) = BAD_VALUE", "removeKnot(10) = UNKNOWN", "addThread(0,0) = BAD_VALUE",
            "removeThread(15) = UNKNOWN", "readNet() = -100", "grow(10) = UNKNOWN", "shrink(0) = NOT_POSSIBLE",
            "join(0,0) = BAD_VALUE", "paint(0,1) = NONE", "exchange(0,1) = BAD_VALUE", "complete() = NOT_POSSIBLE",
            "restore() = NONE", "count(9) = 2", "undo() = 1", "count(8) = 15", "undo() = 0", "count(0) = 0", "undo() = NONE");
    }

    @Sentence({ACTS, OLDEST})
    static void promise16UndoOfAFullHistoryBehindRefusedActs() {
        Trials.run("knots(12) take(0) paint(0,1) paint(0,2) paint(0,0)", "paint(0,0) = NONE", "paint(6,0) = UNKNOWN",
            "take(-1) = BAD_VALUE", "grow(4) = UNKNOWN", "complete() = 5", "complete() = NONE", "count(9) = 4", "undo() = 3",
            "count(8) = 5", "undo() = 2", "thread(0,2) = 2", "undo() = 1", "thread(0,2) = 1", "undo() = 0", "count(8) = 6",
            "undo() = NONE", "count(0) = 4");
    }

    @Sentence(ACTS)
    static void promise16UndoOfTheActsOfNets() {
        Trials.run("take(3) addKnot() removeKnot(6) removeThread(0)", "count(9) = 4", "addThread(0,1) = 8", "grow(3) = 6",
            "shrink(3) = 6", "join(0,1) = 11", "undo() = 3", "count(0) = 6", "undo() = 2", "count(0) = 8", "undo() = 1",
            "count(1) = 9", "undo() = 0", "count(1) = 8", "undo() = NONE");
    }

    @Sentence(ACTS)
    static void promise16UndoOfTheActsThatRemain() {
        Trials.run("write(0-1,1-2) keep() readNet()", "complete() = 2", "exchange(0,1) = 2", "restore() = 0", "undo() = 3",
            "thread(0,2) = 1", "undo() = 2", "thread(0,2) = 0", "undo() = 1", "count(8) = 2", "undo() = 0", "count(0) = 0");
    }

    @Sentence(ACTS)
    static void promise16UndoBehindCallsThatAreNoActs() {
        Trials.run("take(0)", "keep() = 6", "type(48) = 1", "clearText() = 1", "count(9) = 1", "knot(0,0) = 7",
            "paintings(2) = 6", "takingOut(1) = 0", "fewestOdd() = 0", "undo() = 0", "count(0) = 0", "undo() = NONE");
    }

    // ---- promise 17: keep

    @Sentence({"Takes a snapshot of the state", "Returns how many threads there are."})
    static void promise17KeepTheEmptyNet() {
        Trials.run("keep() = 0", "take(0) = 4", "restore() = 0", "count(0) = 0", "count(1) = 0");
    }

    @Sentence({"Takes a snapshot of the state", "Returns how many threads there are."})
    static void promise17KeepTheGreatestNet() {
        Trials.run(Nets.GREATEST_PAINTED, "keep() = 21", "take(0) = 4", "restore() = 21", "count(0) = 14", "count(8) = 0",
            "count(7) = 0", "thread(20,0) = 3", "thread(20,2) = 2", "knot(13,1) = 4353");
    }

    @Sentence("Returns how many threads there are.")
    static void promise17KeepKnotsWithoutThreads() {
        Trials.run(Nets.ALONE_14, "keep() = 0", "removeKnot(0) = 0", "restore() = 0", "count(0) = 14");
    }

    @Sentence({"in place of the one that was.", "There is one snapshot, empty at first."})
    static void promise17KeepInPlaceOfAnother() {
        Trials.run("take(3)", "keep() = 9", "take(0) = 4", "keep() = 6", "take(2) = 10", "restore() = 6", "take(2) = 10",
            "restore() = 6");
    }

    @Sentence("in place of the one that was.")
    static void promise17KeepALesserNetInPlaceOfAGreaterOne() {
        Trials.run(Nets.GREATEST_PAINTED, "keep() = 21", "empty()", "keep() = 0", "take(0) = 4", "restore() = 0", "count(0) = 0",
            "take(0) = 4", "count(8) = 6");
    }

    @Sentence("Takes a snapshot of the state")
    static void promise17KeepIsNotChangedByLaterActs() {
        Trials.run("take(0) paint(0,1)", "keep() = 6", "paint(0,2) = 1", "paint(1,0) = 3", "removeKnot(3) = 3", "restore() = 6",
            "thread(0,2) = 1", "thread(1,2) = NONE", "count(0) = 4");
    }

    @Sentence(ACTS)
    static void promise17KeepIsNoAct() {
        Trials.run("keep() = 0", "count(9) = 0", "undo() = NONE", "knots(5)", "keep() = 0", "count(9) = 4", "undo() = 3",
            "undo() = 2", "undo() = 1", "undo() = 0", "count(0) = 1");
    }

    @Sentence(STATE)
    static void promise17KeepIsNotUndone() {
        Trials.run("take(0)", "keep() = 6", "undo() = 0", "count(0) = 0", "undo() = NONE", "restore() = 6", "count(0) = 4");
    }

    @Sentence(STATE)
    static void promise17KeepNeitherTheTextNorTheHistory() {
        Trials.run("take(0) write(0-1)", "keep() = 6", "clearText() = 3", "addKnot() = 4", "restore() = 6", "count(10) = 0",
            "count(9) = 3", "undo() = 2", "count(0) = 5");
    }

    // ---- promise 18: restore

    @Sentence({"NONE if there is no snapshot.", "A call that returns an error or NONE changes nothing."})
    static void promise18RestoreWithoutASnapshot() {
        Trials.run("restore() = NONE", "count(9) = 0", "take(0) = 4", "restore() = NONE", "count(9) = 1", "count(0) = 4",
            "undo() = 0", "restore() = NONE");
    }

    @Sentence({"NONE if there is no snapshot.", OLDEST})
    static void promise18RestoreWithoutASnapshotWithAFullHistory() {
        Trials.run("knots(5)", "restore() = NONE", "count(9) = 4", "undo() = 3", "undo() = 2", "undo() = 1", "undo() = 0",
            "count(0) = 1");
    }

    @Sentence("Returns how many threads there are then")
    static void promise18RestoreASnapshotOfTheEmptyNet() {
        Trials.run("keep() = 0", "restore() = 0", "count(9) = 1", "take(0) = 4", "restore() = 0", "count(0) = 0", "undo() = 2",
            "count(0) = 4");
    }

    @Sentence({"Restores the state of the snapshot, which stays.", "Returns how many threads there are then"})
    static void promise18RestoreTwice() {
        Trials.run("take(0) paint(0,1)", "keep() = 6", "take(1) = 6", "restore() = 6", "paint(0,2) = 1", "removeThread(5) = 5",
            "restore() = 6", "thread(0,2) = 1", "count(0) = 4", "restore() = 6");
    }

    @Sentence("This is an act.")
    static void promise18RestoreIsAnAct() {
        Trials.acted("take(0) paint(0,1) keep() take(1)", "restore() = 6", "4 knots 0-1:1 0-2 0-3 1-2 1-3 2-3");
        Trials.acted(Nets.GREATEST_PAINTED + "keep() empty()", "restore() = 21", Nets.GREATEST_PAINTED_NET);
    }

    @Sentence({"This is an act.", ACTS})
    static void promise18RestoreOfWhatIsIsAnActToo() {
        Trials.acted("take(0) keep()", "restore() = 6", Nets.K4);
    }

    public static void main(String[] args) {
        Trials.runAll(HistoryBoundaryTest.class);
    }
}
