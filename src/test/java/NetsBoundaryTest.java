/** The boundary cases of promises 1 to 6 and 8 to 10: nets that are made and changed. */
final class NetsBoundaryTest {

    // ---- promise 1: a new object

    @Sentence("Creates a net without knots.")
    static void promise01NewObjectHasNoKnots() {
        Trials.run("count(0) = 0", "count(1) = 0", "knot(0,0) = UNKNOWN", "thread(0,0) = UNKNOWN");
    }

    @Sentence("There is a text of at most 60 characters, empty at first.")
    static void promise01NewObjectHasAnEmptyText() {
        Trials.run("count(10) = 0", "readNet() = -100", "clearText() = 0");
    }

    @Sentence("A history of at most 4 states is kept")
    static void promise01NewObjectHasAnEmptyHistory() {
        Trials.run("count(9) = 0", "undo() = NONE", "count(9) = 0");
    }

    @Sentence("There is one snapshot, empty at first.")
    static void promise01NewObjectHasNoSnapshot() {
        Trials.run("restore() = NONE", "count(9) = 0", "count(0) = 0");
    }

    @Sentence("Creates a net without knots.")
    static void promise01NewObjectHasNothingOfAnother() {
        new Called().run("take(2) paint(0,1) keep() write(0-1)");
        Trials.run("count(0) = 0", "count(9) = 0", "count(10) = 0", "undo() = NONE", "restore() = NONE");
    }

    @Sentence({"UNKNOWN = -1: There is no such knot or thread.", "BAD_VALUE = -2: Another argument is out of range.",
        "FULL = -3: There is no more room.", "NOT_POSSIBLE = -4: This is not possible.",
        "NONE = -5: There is no such thing; not an error."})
    static void promise01TheConstantsHaveTheirValues() {
        Trials.due("UNKNOWN", KnotStripes.UNKNOWN, -1);
        Trials.due("BAD_VALUE", KnotStripes.BAD_VALUE, -2);
        Trials.due("FULL", KnotStripes.FULL, -3);
        Trials.due("NOT_POSSIBLE", KnotStripes.NOT_POSSIBLE, -4);
        Trials.due("NONE", KnotStripes.NONE, -5);
    }

    @Sentence("An object is used for at most 512 calls after it has been made")
    static void promise01TheLastOfSoManyCallsIsAnswered() {
        Called x = new Called();
        for (int i = 0; i < 85; i++) {
            x.run("take(2) keep() removeThread(14) paint(0,1) restore() undo()");
        }
        Trials.due("the 511th call, count(1)", x.ask("count", 1), 14);
        Trials.due("the 512th call, takingOut(1)", x.ask("takingOut", 1), 1);
        Trials.due("how many calls", x.calls(), Called.MOST_CALLS);
    }

    // ---- promise 2: take

    @Sentence({"which: 0 to 4", "Returns how many knots it has",
        "0 (four knots): 0-1, 0-2, 0-3, 1-2, 1-3, 2-3."})
    static void promise02TakeTheLeast() {
        Trials.acted("", "take(0) = 4", Nets.K4);
    }

    @Sentence({"which: 0 to 4", "4 (ten knots, with a bridge): 0-1, 0-2, 1-3, 2-3, 1-4, 2-4, 3-4, 0-5, 5-6, 5-7, 6-8, 7-8, "
        + "6-9, 7-9, 8-9."})
    static void promise02TakeTheGreatest() {
        Trials.acted("", "take(4) = 10", Nets.BRIDGED);
    }

    @Sentence("1 (six knots): 0-3, 0-4, 0-5, 1-3, 1-4, 1-5, 2-3, 2-4, 2-5.")
    static void promise02TakeTheOneOfSixKnots() {
        Trials.acted("", "take(1) = 6", Nets.K33);
    }

    @Sentence("2 (ten knots): 0-1, 1-2, 2-3, 3-4, 0-4, 0-5, 1-6, 2-7, 3-8, 4-9, 5-7, 7-9, 6-9, 6-8, 5-8.")
    static void promise02TakeTheOneOfTenKnots() {
        Trials.acted("", "take(2) = 10", Nets.PETERSEN);
    }

    @Sentence("3 (six knots): 0-1, 1-2, 0-2, 3-4, 4-5, 3-5, 0-3, 1-4, 2-5.")
    static void promise02TakeTheOneOfTwoTriangles() {
        Trials.acted("", "take(3) = 6", Nets.PRISM);
    }

    @Sentence({"which: 0 to 4", "BAD_VALUE"})
    static void promise02TakeBeyond() {
        Trials.unchanged("", "take(-1) = BAD_VALUE", "take(5) = BAD_VALUE", "take(MIN) = BAD_VALUE", "take(MAX) = BAD_VALUE");
        Trials.unchanged(Nets.GREATEST_PAINTED, "take(-1) = BAD_VALUE", "take(5) = BAD_VALUE");
    }

    @Sentence("no thread has a colour then.")
    static void promise02TakeWhereAllThreadsHadColours() {
        Trials.acted("take(1) paints(0,1,2,1,2,0,2,0,1)", "take(1) = 6", Nets.K33);
        Trials.acted(Nets.GREATEST_PAINTED, "take(4) = 10", Nets.BRIDGED);
    }

    @Sentence("Makes the net one that is built in")
    static void promise02TakeInPlaceOfTheGreatestNet() {
        Trials.acted(Nets.GREATEST, "take(0) = 4", Nets.K4);
        Trials.acted(Nets.ALONE_14, "take(0) = 4", Nets.K4);
    }

    @Sentence("This is an act.")
    static void promise02TakeOfWhatIsTakenIsAnActToo() {
        Trials.acted("take(0)", "take(0) = 4", Nets.K4);
    }

    // ---- promise 3: addKnot

    @Sentence({"Returns its number", "There are at most 14 knots, numbered from 0"})
    static void promise03AddTheFirstKnot() {
        Trials.acted("", "addKnot() = 0", "1 knots");
    }

    @Sentence({"Returns its number", "There are at most 14 knots, numbered from 0"})
    static void promise03AddTheLastKnot() {
        Trials.acted("knots(13)", "addKnot() = 13", "14 knots");
    }

    @Sentence("FULL if there are 14.")
    static void promise03AddAKnotTooMany() {
        Trials.unchanged(Nets.ALONE_14, "addKnot() = FULL", "addKnot() = FULL");
        Trials.unchanged(Nets.GREATEST_PAINTED, "addKnot() = FULL");
    }

    @Sentence("FULL if there are 14.")
    static void promise03AddAKnotWhenOneOf14IsGone() {
        Trials.acted("knots(14) removeKnot(0)", "addKnot() = 13", "14 knots");
    }

    @Sentence({"Adds a knot without threads.", "This is an act."})
    static void promise03AddAKnotHasNoThreads() {
        Trials.acted("take(0)", "addKnot() = 4", "5 knots 0-1 0-2 0-3 1-2 1-3 2-3");
        Trials.unchanged("take(0) addKnot()", "knot(4,0) = 0", "knot(4,1) = 0", "knot(4,3) = 16");
    }

    @Sentence("Adds a knot without threads.")
    static void promise03AddAKnotInPlaceOfOneThatHadThreads() {
        Trials.acted("take(0) removeKnot(3)", "addKnot() = 3", "4 knots 0-1 0-2 1-2");
        Trials.acted(Nets.GREATEST_PAINTED + "removeKnot(13) removeKnot(12)", "addKnot() = 12",
            "13 knots 0-1:0 1-2:1 2-3:0 3-4:1 4-5:0 5-6:1 6-7:0 7-8:1 8-9:0 9-10:1 10-11:0 0-5:2 2-7:2 4-9:2 6-11:2 1-10:2");
    }

    // ---- promise 4: removeKnot

    @Sentence({"knot: a knot", "Removes a knot and its threads.", "Returns how many threads are left"})
    static void promise04RemoveTheLeastKnot() {
        Trials.acted(Nets.PAINTED_K4, "removeKnot(0) = 3", "3 knots 0-1:2 0-2:1 1-2:0");
        Trials.acted(Nets.GREATEST, "removeKnot(0) = 18", "13 knots 0-1 1-2 2-3 3-4 4-5 5-6 6-7 7-8 8-9 9-10 10-11 11-12 "
            + "1-6 3-8 5-10 7-12 0-9 2-11");
    }

    @Sentence({"knot: a knot", "Removes a knot and its threads.", "Returns how many threads are left"})
    static void promise04RemoveTheGreatestKnot() {
        Trials.acted(Nets.PAINTED_K4, "removeKnot(3) = 3", "3 knots 0-1:0 0-2:1 1-2:2");
        Trials.acted(Nets.GREATEST, "removeKnot(13) = 18", "13 knots 0-1 1-2 2-3 3-4 4-5 5-6 6-7 7-8 8-9 9-10 10-11 11-12 "
            + "0-5 2-7 4-9 6-11 1-10 3-12");
    }

    @Sentence("UNKNOWN")
    static void promise04RemoveAKnotBeyond() {
        Trials.unchanged(Nets.PAINTED_K4, "removeKnot(-1) = UNKNOWN", "removeKnot(4) = UNKNOWN", "removeKnot(MIN) = UNKNOWN",
            "removeKnot(MAX) = UNKNOWN", "removeKnot(32) = UNKNOWN");
        Trials.unchanged(Nets.GREATEST, "removeKnot(-1) = UNKNOWN", "removeKnot(14) = UNKNOWN");
    }

    @Sentence("UNKNOWN")
    static void promise04RemoveAKnotOfNone() {
        Trials.unchanged("", "removeKnot(0) = UNKNOWN", "removeKnot(-1) = UNKNOWN");
    }

    @Sentence("Returns how many threads are left")
    static void promise04RemoveTheOnlyKnot() {
        Trials.acted("addKnot()", "removeKnot(0) = 0", "0 knots");
    }

    @Sentence({"Removes a knot and its threads.", "Returns how many threads are left"})
    static void promise04RemoveAKnotWithoutThreads() {
        Trials.acted("take(0) addKnot()", "removeKnot(4) = 6", Nets.K4);
        Trials.acted(Nets.ALONE_14, "removeKnot(13) = 0", "13 knots");
    }

    @Sentence({"When a knot or a thread is removed, those with greater numbers come one number earlier.", "This is an act."})
    static void promise04RemoveAKnotFromTheMiddle() {
        Trials.acted(Nets.GREATEST_PAINTED, "removeKnot(6) = 18", "13 knots 0-1:0 1-2:1 2-3:0 3-4:1 4-5:0 6-7:1 7-8:0 8-9:1 "
            + "9-10:0 10-11:1 11-12:0 0-12:1 0-5:2 2-6:2 4-8:2 7-12:2 1-9:2 3-11:2");
    }

    // ---- promise 5: addThread

    @Sentence({"one: a knot", "other: another knot", "Returns its number",
        "and at most 21 threads, numbered from 0."})
    static void promise05AddTheFirstThread() {
        Trials.acted("knots(2)", "addThread(0,1) = 0", "2 knots 0-1");
        Trials.acted(Nets.ALONE_14, "addThread(0,13) = 0", "14 knots 0-13");
    }

    @Sentence({"Returns its number", "and at most 21 threads, numbered from 0."})
    static void promise05AddTheLastThread() {
        Trials.acted(Nets.GREATEST + "removeThread(20)", "addThread(3,12) = 20", Nets.GREATEST_NET);
    }

    @Sentence({"and at most 21 threads, numbered from 0.", "and a knot has at most three"})
    static void promise05AddAThreadTooMany() {
        Trials.unchanged(Nets.GREATEST, "addThread(0,2) = NOT_POSSIBLE", "addThread(0,13) = NOT_POSSIBLE",
            "addThread(12,10) = NOT_POSSIBLE");
    }

    @Sentence("A thread is told by its knots, the lesser number first.")
    static void promise05AddAThreadWithTheGreaterKnotFirst() {
        Trials.acted("knots(3)", "addThread(2,0) = 0", "3 knots 0-2");
        Trials.unchanged(Nets.ALONE_14 + "addThread(13,0)", "thread(0,0) = 0", "thread(0,1) = 13", "between(0,13) = 0",
            "between(13,0) = 0");
    }

    @Sentence({"Adds a thread without a colour.", "This is an act."})
    static void promise05AddAThreadInPlaceOfOneThatHadAColour() {
        Trials.acted(Nets.PAINTED_K4 + "removeThread(5)", "addThread(2,3) = 5", "4 knots 0-1:0 0-2:1 0-3:2 1-2:2 1-3:1 2-3");
        Trials.acted(Nets.PAINTED_K4 + "removeThread(0)", "addThread(0,1) = 5", "4 knots 0-2:1 0-3:2 1-2:2 1-3:1 2-3:0 0-1");
    }

    @Sentence("UNKNOWN (one or other)")
    static void promise05AddAThreadFromAKnotBeyond() {
        Trials.unchanged("knots(3)", "addThread(-1,0) = UNKNOWN", "addThread(3,0) = UNKNOWN", "addThread(MIN,0) = UNKNOWN",
            "addThread(MAX,0) = UNKNOWN", "addThread(32,1) = UNKNOWN");
        Trials.unchanged(Nets.ALONE_14, "addThread(14,0) = UNKNOWN");
    }

    @Sentence("UNKNOWN (one or other)")
    static void promise05AddAThreadToAKnotBeyond() {
        Trials.unchanged("knots(3)", "addThread(0,-1) = UNKNOWN", "addThread(0,3) = UNKNOWN", "addThread(0,MIN) = UNKNOWN",
            "addThread(0,MAX) = UNKNOWN", "addThread(1,32) = UNKNOWN");
        Trials.unchanged(Nets.ALONE_14, "addThread(0,14) = UNKNOWN");
    }

    @Sentence("UNKNOWN (one or other)")
    static void promise05AddAThreadToAnEmptyNet() {
        Trials.unchanged("", "addThread(0,1) = UNKNOWN", "addThread(0,0) = UNKNOWN");
        Trials.unchanged("knots(1)", "addThread(0,1) = UNKNOWN", "addThread(1,0) = UNKNOWN", "addThread(0,0) = BAD_VALUE");
    }

    @Sentence({"UNKNOWN (one or other); BAD_VALUE if both are the same",
        "Where several errors can apply, the order of the @return line is the order of the checks."})
    static void promise05AddAThreadFromAnUnknownKnotToItself() {
        Trials.unchanged("knots(3)", "addThread(3,3) = UNKNOWN", "addThread(-1,-1) = UNKNOWN", "addThread(MAX,MAX) = UNKNOWN");
    }

    @Sentence("UNKNOWN (one or other)")
    static void promise05AddAThreadFromAFullKnotToAnUnknownOne() {
        Trials.unchanged("take(0)", "addThread(0,4) = UNKNOWN", "addThread(4,0) = UNKNOWN");
    }

    @Sentence({"BAD_VALUE if both are the same", "A thread leads from one knot to another one"})
    static void promise05AddAThreadFromAKnotToItself() {
        Trials.unchanged("knots(3)", "addThread(0,0) = BAD_VALUE", "addThread(2,2) = BAD_VALUE");
        Trials.unchanged(Nets.ALONE_14, "addThread(13,13) = BAD_VALUE");
    }

    @Sentence("BAD_VALUE if both are the same; NOT_POSSIBLE if there is one between them, or one of both has three threads.")
    static void promise05AddAThreadFromAFullKnotToItself() {
        Trials.unchanged("take(0)", "addThread(0,0) = BAD_VALUE", "addThread(3,3) = BAD_VALUE");
    }

    @Sentence({"NOT_POSSIBLE if there is one between them", "there is at most one thread between two knots"})
    static void promise05AddAThreadWhereOneIs() {
        Trials.unchanged("knots(3) ties(0-2)", "addThread(0,2) = NOT_POSSIBLE", "addThread(2,0) = NOT_POSSIBLE");
        Trials.acted("knots(3) ties(0-2)", "addThread(0,1) = 1", "3 knots 0-2 0-1");
        Trials.acted("knots(3) ties(0-2)", "addThread(2,1) = 1", "3 knots 0-2 1-2");
    }

    @Sentence({"or one of both has three threads.", "and a knot has at most three"})
    static void promise05AddAThreadFromAKnotWithThree() {
        Trials.unchanged("knots(5) ties(0-1,0-2,0-3)", "addThread(0,4) = NOT_POSSIBLE");
    }

    @Sentence({"or one of both has three threads.", "and a knot has at most three"})
    static void promise05AddAThreadToAKnotWithThree() {
        Trials.unchanged("knots(5) ties(0-1,0-2,0-3)", "addThread(4,0) = NOT_POSSIBLE");
    }

    @Sentence("or one of both has three threads.")
    static void promise05AddAThreadBetweenTwoKnotsWithThree() {
        Trials.unchanged("take(3)", "addThread(0,4) = NOT_POSSIBLE", "addThread(5,0) = NOT_POSSIBLE");
    }

    @Sentence("and a knot has at most three")
    static void promise05AddTheThirdThreadOfBothKnots() {
        Trials.acted("knots(6) ties(0-1,0-2,3-4,3-5)", "addThread(0,3) = 4", "6 knots 0-1 0-2 3-4 3-5 0-3");
    }

    // ---- promise 6: removeThread

    @Sentence({"thread: a thread", "Removes a thread.", "This is an act."})
    static void promise06RemoveTheLeastThread() {
        Trials.acted(Nets.PAINTED_K4, "removeThread(0) = 5", "4 knots 0-2:1 0-3:2 1-2:2 1-3:1 2-3:0");
    }

    @Sentence({"thread: a thread", "Removes a thread."})
    static void promise06RemoveTheGreatestThread() {
        Trials.acted(Nets.PAINTED_K4, "removeThread(5) = 5", "4 knots 0-1:0 0-2:1 0-3:2 1-2:2 1-3:1");
        Trials.acted(Nets.GREATEST, "removeThread(20) = 20", Nets.GREATEST_NET.replace(" 3-12", ""));
    }

    @Sentence("UNKNOWN")
    static void promise06RemoveAThreadBeyond() {
        Trials.unchanged(Nets.PAINTED_K4, "removeThread(-1) = UNKNOWN", "removeThread(6) = UNKNOWN",
            "removeThread(MIN) = UNKNOWN", "removeThread(MAX) = UNKNOWN", "removeThread(32) = UNKNOWN");
        Trials.unchanged(Nets.GREATEST, "removeThread(21) = UNKNOWN");
    }

    @Sentence("UNKNOWN")
    static void promise06RemoveAThreadOfNone() {
        Trials.unchanged("", "removeThread(0) = UNKNOWN");
        Trials.unchanged(Nets.ALONE_14, "removeThread(0) = UNKNOWN");
    }

    @Sentence("Returns how many threads are left")
    static void promise06RemoveTheOnlyThread() {
        Trials.acted("knots(2) ties(0-1)", "removeThread(0) = 0", "2 knots");
    }

    @Sentence("When a knot or a thread is removed, those with greater numbers come one number earlier.")
    static void promise06RemoveAThreadFromTheMiddle() {
        Trials.acted(Nets.GREATEST_PAINTED, "removeThread(13) = 20", Nets.GREATEST_PAINTED_NET.replace(" 0-13:1", ""));
    }

    // ---- promise 8: grow

    @Sentence({"knot: a knot", "Returns the number of the first new knot",
        "it keeps its first thread (by number); two new knots, with the next two numbers, get the second and the third one, "
        + "which keep their numbers and colours; and three threads without colours are added: from the old knot to the first "
        + "new one, from the old one to the second new one, and between both new ones.", "This is an act."})
    static void promise08GrowTheLeastKnot() {
        Trials.acted(Nets.PAINTED_K4, "grow(0) = 4", "6 knots 0-1:0 2-4:1 3-5:2 1-2:2 1-3:1 2-3:0 0-4 0-5 4-5");
    }

    @Sentence({"knot: a knot", "Grows a knot with three threads into three", "it keeps its first thread (by number)"})
    static void promise08GrowTheGreatestKnot() {
        Trials.acted(Nets.PAINTED_K4, "grow(3) = 4", "6 knots 0-1:0 0-2:1 0-3:2 1-2:2 1-4:1 2-5:0 3-4 3-5 4-5");
    }

    @Sentence("it keeps its first thread (by number)")
    static void promise08GrowByTheNumbersOfThreadsNotOfKnots() {
        Trials.acted("knots(4) ties(3-1,3-2,0-3)", "grow(3) = 4", "6 knots 1-3 2-4 0-5 3-4 3-5 4-5");
    }

    @Sentence("three threads without colours are added")
    static void promise08GrowWhereThreadsWithColoursWere() {
        Trials.acted(Nets.GREATEST_PAINTED + "take(0)", "grow(0) = 4", "6 knots 0-1 2-4 3-5 1-2 1-3 2-3 0-4 0-5 4-5");
    }

    @Sentence("UNKNOWN")
    static void promise08GrowAKnotBeyond() {
        Trials.unchanged("take(0)", "grow(-1) = UNKNOWN", "grow(4) = UNKNOWN", "grow(MIN) = UNKNOWN", "grow(MAX) = UNKNOWN",
            "grow(32) = UNKNOWN");
        Trials.unchanged("", "grow(0) = UNKNOWN");
    }

    @Sentence({"UNKNOWN; NOT_POSSIBLE if it has not three threads; FULL if there would be more than 14 knots.",
        "Where several errors can apply, the order of the @return line is the order of the checks."})
    static void promise08GrowAKnotBeyondOfTheGreatestNet() {
        Trials.unchanged(Nets.GREATEST, "grow(14) = UNKNOWN", "grow(-1) = UNKNOWN");
    }

    @Sentence("NOT_POSSIBLE if it has not three threads")
    static void promise08GrowAKnotWithFewerThreads() {
        Trials.unchanged("knots(4) ties(1-2,2-3)", "grow(0) = NOT_POSSIBLE", "grow(1) = NOT_POSSIBLE", "grow(2) = NOT_POSSIBLE");
    }

    @Sentence("NOT_POSSIBLE if it has not three threads; FULL if there would be more than 14 knots.")
    static void promise08GrowAKnotWithFewerThreadsWithoutRoom() {
        Trials.unchanged(Nets.RING_14, "grow(0) = NOT_POSSIBLE", "grow(13) = NOT_POSSIBLE");
        Trials.unchanged("take(2) grow(0) addKnot()", "grow(12) = NOT_POSSIBLE");
    }

    @Sentence({"FULL if there would be more than 14 knots.", "This is an act."})
    static void promise08GrowTo14Knots() {
        Trials.acted("take(2) grow(0)", "grow(11) = 12", "14 knots 0-1 1-2 2-3 3-4 4-10 5-11 1-6 2-7 3-8 4-9 5-7 7-9 6-9 6-8 "
            + "5-8 0-10 0-12 10-13 11-12 11-13 12-13");
    }

    @Sentence("FULL if there would be more than 14 knots.")
    static void promise08GrowBeyond14Knots() {
        Trials.unchanged("take(2) grow(0) addKnot()", "grow(0) = FULL", "grow(11) = FULL");
        Trials.unchanged(Nets.GREATEST, "grow(0) = FULL", "grow(13) = FULL");
    }

    // ---- promise 9: shrink

    private static final String GROWN = Nets.PAINTED_K4 + "grow(0) ";

    @Sentence({"knot: a knot", "Returns how many knots are left", "This is an act.",
        "a knot with three threads, two of whose neighbours are joined by a thread, and each have three threads.",
        "the three threads between the three knots are removed, the threads of these neighbours that lead elsewhere lead to "
        + "the knot instead, and both neighbours are removed."})
    static void promise09ShrinkTheLeastKnot() {
        Trials.acted(GROWN, "shrink(0) = 4", "4 knots 0-1:0 0-2:1 0-3:2 1-2:2 1-3:1 2-3:0");
    }

    @Sentence({"knot: a knot", "both neighbours are removed."})
    static void promise09ShrinkTheGreatestKnot() {
        Trials.acted(GROWN, "shrink(5) = 4", "4 knots 0-3:0 1-3:1 2-3:2 0-1:2 0-2:1 1-2:0");
    }

    @Sentence("both neighbours are removed.")
    static void promise09ShrinkAKnotBetweenItsNeighbours() {
        Trials.acted(GROWN, "shrink(4) = 4", "4 knots 0-3:0 1-3:1 2-3:2 0-1:2 0-2:1 1-2:0");
    }

    @Sentence("When a knot or a thread is removed, those with greater numbers come one number earlier.")
    static void promise09ShrinkWhereThreadsOfTheTriangleAreFirst() {
        Trials.acted("take(3) paints(0,1,2,0,1,2,1,2,0)", "shrink(1) = 4", "4 knots 1-2:0 2-3:1 1-3:2 0-1:1 0-2:2 0-3:0");
    }

    @Sentence("two of whose neighbours are joined by a thread")
    static void promise09ShrinkWhereTheLeastThreadJoinsTheNeighbours() {
        Trials.acted("take(3)", "shrink(2) = 4", "4 knots 1-2 2-3 1-3 0-1 0-2 0-3");
    }

    @Sentence("Returns how many knots are left")
    static void promise09ShrinkOf14Knots() {
        Trials.acted("take(2) grow(0) grow(0)", "shrink(0) = 12", "12 knots 0-1 1-2 2-3 3-4 4-10 5-11 1-6 2-7 3-8 4-9 5-7 7-9 "
            + "6-9 6-8 5-8 0-10 0-11 10-11");
    }

    @Sentence("UNKNOWN")
    static void promise09ShrinkAKnotBeyond() {
        Trials.unchanged("take(3)", "shrink(-1) = UNKNOWN", "shrink(6) = UNKNOWN", "shrink(MIN) = UNKNOWN",
            "shrink(MAX) = UNKNOWN", "shrink(32) = UNKNOWN");
        Trials.unchanged(Nets.GREATEST, "shrink(14) = UNKNOWN");
        Trials.unchanged("", "shrink(0) = UNKNOWN");
    }

    @Sentence({"NOT_POSSIBLE if it is no such knot", "a knot with three threads"})
    static void promise09ShrinkAKnotWithTwoThreads() {
        Trials.unchanged("knots(5) ties(0-1,0-2,1-2,1-3,2-4)", "shrink(0) = NOT_POSSIBLE");
        Trials.unchanged("knots(3) ties(0-1,0-2,1-2)", "shrink(0) = NOT_POSSIBLE", "shrink(2) = NOT_POSSIBLE");
    }

    @Sentence({"NOT_POSSIBLE if it is no such knot", "and each have three threads."})
    static void promise09ShrinkWhereANeighbourHasTwoThreads() {
        Trials.unchanged("knots(5) ties(0-1,0-2,1-2,0-3,1-4)", "shrink(0) = NOT_POSSIBLE", "shrink(1) = NOT_POSSIBLE");
        Trials.unchanged("knots(5) ties(4-3,4-2,3-2,4-1,3-0)", "shrink(4) = NOT_POSSIBLE", "shrink(3) = NOT_POSSIBLE");
    }

    @Sentence({"NOT_POSSIBLE if it is no such knot", "two of whose neighbours are joined by a thread"})
    static void promise09ShrinkWithoutATriangle() {
        Trials.unchanged("take(1)", "shrink(0) = NOT_POSSIBLE", "shrink(5) = NOT_POSSIBLE");
        Trials.unchanged(Nets.GREATEST, "shrink(0) = NOT_POSSIBLE", "shrink(13) = NOT_POSSIBLE");
    }

    @Sentence("NOT_POSSIBLE if it is no such knot")
    static void promise09ShrinkAKnotWithoutThreads() {
        Trials.unchanged("addKnot()", "shrink(0) = NOT_POSSIBLE");
        Trials.unchanged(Nets.ALONE_14, "shrink(13) = NOT_POSSIBLE");
    }

    @Sentence("or two threads between the same knots would come about")
    static void promise09ShrinkWhereBothNeighboursLeadToOneKnot() {
        Trials.unchanged("knots(5) ties(0-1,0-2,1-2,0-4,1-3,2-3)", "shrink(0) = NOT_POSSIBLE");
    }

    @Sentence("or two threads between the same knots would come about")
    static void promise09ShrinkWhereTheKnotAndANeighbourLeadToOneKnot() {
        Trials.unchanged("knots(5) ties(0-1,0-2,1-2,0-3,1-3,2-4)", "shrink(0) = NOT_POSSIBLE", "shrink(1) = NOT_POSSIBLE");
    }

    @Sentence({"or two threads between the same knots would come about (other neighbours are not tried then).",
        "The lowest two such neighbours are taken"})
    static void promise09ShrinkAKnotOfTwoTriangles() {
        Trials.unchanged("knots(6) ties(0-1,0-2,1-2,1-3,2-3,0-4,3-5)", "shrink(1) = NOT_POSSIBLE", "shrink(2) = NOT_POSSIBLE",
            "shrink(0) = NOT_POSSIBLE", "shrink(3) = NOT_POSSIBLE");
        Trials.unchanged("take(0)", "shrink(0) = NOT_POSSIBLE", "shrink(3) = NOT_POSSIBLE");
    }

    @Sentence("Shrinks a triangle")
    static void promise09ShrinkWhereTheOutsideKnotsAreJoined() {
        Trials.acted("knots(6) ties(0-1,0-2,1-2,0-3,1-4,2-5,3-4,4-5,3-5)", "shrink(0) = 4", "4 knots 0-1 0-2 0-3 1-2 2-3 1-3");
    }

    // ---- promise 10: join

    @Sentence({"one: a thread", "other: another thread", "Joins two threads by a new one",
        "Returns the number of the thread between both new knots", "This is an act."})
    static void promise10JoinTheLeastAndTheGreatestThread() {
        Trials.acted(Nets.PAINTED_K4, "join(0,5) = 8", "6 knots 0-4:0 0-2:1 0-3:2 1-2:2 1-3:1 2-5:0 1-4 3-5 4-5");
    }

    @Sentence("a new knot is put into each of them (into the first one the next number, into the second one the number behind "
        + "it)")
    static void promise10JoinTheGreatestAndTheLeastThread() {
        Trials.acted(Nets.PAINTED_K4, "join(5,0) = 8", "6 knots 0-5:0 0-2:1 0-3:2 1-2:2 1-3:1 2-4:0 3-4 1-5 4-5");
    }

    @Sentence({"the part of each thread that begins at its lesser knot keeps its number and its colour",
        "then three threads without colours are added: from the first new knot to the greater knot of the first thread, from "
        + "the second new one to that of the second thread, and between both new ones."})
    static void promise10JoinTwoThreadsOfOneKnot() {
        Trials.acted("knots(3) ties(1-2,1-0) paints(0,2)", "join(0,1) = 4", "5 knots 1-3:0 0-4:2 2-3 1-4 3-4");
        Trials.acted("knots(3) ties(2-0,2-1) paints(1,0)", "join(1,0) = 4", "5 knots 0-4:1 1-3:0 2-3 2-4 3-4");
    }

    @Sentence("then three threads without colours are added")
    static void promise10JoinWhereThreadsWithColoursWere() {
        Trials.acted(Nets.GREATEST_PAINTED + "take(0)", "join(0,1) = 8", "6 knots 0-4 0-5 0-3 1-2 1-3 2-3 1-4 2-5 4-5");
    }

    @Sentence("UNKNOWN (one or other)")
    static void promise10JoinAThreadBeyondWithAnother() {
        Trials.unchanged("take(0)", "join(-1,0) = UNKNOWN", "join(6,0) = UNKNOWN", "join(MIN,0) = UNKNOWN",
            "join(MAX,0) = UNKNOWN", "join(32,1) = UNKNOWN");
    }

    @Sentence("UNKNOWN (one or other)")
    static void promise10JoinAThreadWithOneBeyond() {
        Trials.unchanged("take(0)", "join(0,-1) = UNKNOWN", "join(0,6) = UNKNOWN", "join(0,MIN) = UNKNOWN",
            "join(0,MAX) = UNKNOWN", "join(1,32) = UNKNOWN");
    }

    @Sentence("UNKNOWN (one or other)")
    static void promise10JoinWithoutThreads() {
        Trials.unchanged("", "join(0,1) = UNKNOWN", "join(0,0) = UNKNOWN");
        Trials.unchanged(Nets.ALONE_14, "join(0,1) = UNKNOWN");
    }

    @Sentence("UNKNOWN (one or other); BAD_VALUE if both are the same")
    static void promise10JoinAnUnknownThreadWithItself() {
        Trials.unchanged("take(0)", "join(6,6) = UNKNOWN", "join(-1,-1) = UNKNOWN");
    }

    @Sentence("UNKNOWN (one or other); BAD_VALUE if both are the same; FULL if there would be more than 14 knots.")
    static void promise10JoinAnUnknownThreadWithoutRoom() {
        Trials.unchanged(Nets.GREATEST, "join(21,0) = UNKNOWN", "join(0,21) = UNKNOWN", "join(21,21) = UNKNOWN");
    }

    @Sentence("BAD_VALUE if both are the same")
    static void promise10JoinAThreadWithItself() {
        Trials.unchanged("take(0)", "join(0,0) = BAD_VALUE", "join(5,5) = BAD_VALUE");
        Trials.unchanged("knots(2) ties(0-1)", "join(0,0) = BAD_VALUE", "join(0,1) = UNKNOWN", "join(1,0) = UNKNOWN");
    }

    @Sentence("BAD_VALUE if both are the same; FULL if there would be more than 14 knots.")
    static void promise10JoinAThreadWithItselfWithoutRoom() {
        Trials.unchanged(Nets.GREATEST, "join(0,0) = BAD_VALUE", "join(20,20) = BAD_VALUE");
    }

    @Sentence("FULL if there would be more than 14 knots.")
    static void promise10JoinTo14Knots() {
        Trials.acted("take(2) grow(0)", "join(17,16) = 20", "14 knots 0-1 1-2 2-3 3-4 4-10 5-11 1-6 2-7 3-8 4-9 5-7 7-9 6-9 "
            + "6-8 5-8 0-10 0-13 10-12 11-12 11-13 12-13");
        Trials.acted("knots(12) ties(0-1,2-3)", "join(0,1) = 4", "14 knots 0-12 2-13 1-12 3-13 12-13");
    }

    @Sentence("FULL if there would be more than 14 knots.")
    static void promise10JoinBeyond14Knots() {
        Trials.unchanged("knots(13) ties(0-1,2-3)", "join(0,1) = FULL", "join(1,0) = FULL");
        Trials.unchanged(Nets.GREATEST, "join(0,1) = FULL", "join(20,19) = FULL");
    }

    public static void main(String[] args) {
        Trials.runAll(NetsBoundaryTest.class);
    }
}
