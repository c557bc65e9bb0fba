/** The boundary cases of promises 19 to 25: what is told of knots, threads, chains, paintings and taking out. */
final class ToldBoundaryTest {
    private static final String CIRCLE = "A circle is a way along threads that comes back to the knot where it began, with at "
        + "least three different threads, and goes through no knot twice.";
    private static final String BRIDGE = "A thread is a bridge if no circle goes through it.";
    private static final String PART = "A part of the net is made of all knots that can be reached from one another.";
    private static final String WRONG = "A knot is wrong if two of its threads have the same colour.";
    private static final String BITS = "Sets of knots and of threads are told as bits: 1 for the number 0, 2 for 1, 4 for 2, and "
        + "so on.";
    private static final String ORDER = "Where several errors can apply, the order of the @return line is the order of the "
        + "checks.";

    /** Two triangles with a row of two threads between them, and one knot that hangs at the row. */
    private static final String TWO_TRIANGLES = "knots(8) ties(0-1,0-2,1-2,2-3,3-4,4-5,4-6,5-6,3-7) ";
    private static final String ALL_COLOUR_0 = Nets.GREATEST + "paints(" + "0,".repeat(20) + "0) ";

    // ---- promise 19: knot

    @Sentence({"knot: a knot", "what: 0 for its threads (as bits), 1 for its neighbours (as bits)", BITS})
    static void promise19TellTheLeastKnot() {
        Trials.unchanged(Nets.GREATEST_PAINTED, "knot(0,0) = 24577", "knot(0,1) = 8226", "knot(0,2) = 0", "knot(0,3) = 16383",
            "knot(0,4) = 6");
    }

    @Sentence({"knot: a knot", "what: 0 for its threads (as bits), 1 for its neighbours (as bits)", BITS})
    static void promise19TellTheGreatestKnot() {
        Trials.unchanged(Nets.GREATEST_PAINTED, "knot(13,0) = 274432", "knot(13,1) = 4353", "knot(13,2) = 0",
            "knot(13,3) = 16383", "knot(13,4) = 6", "knot(12,0) = 1054720", "knot(12,1) = 10248");
    }

    @Sentence("UNKNOWN")
    static void promise19TellAKnotBeyond() {
        Trials.unchanged("take(0)", "knot(-1,0) = UNKNOWN", "knot(4,0) = UNKNOWN", "knot(MIN,0) = UNKNOWN",
            "knot(MAX,0) = UNKNOWN", "knot(32,4) = UNKNOWN");
        Trials.unchanged(Nets.GREATEST, "knot(14,0) = UNKNOWN", "knot(-1,4) = UNKNOWN");
        Trials.unchanged("", "knot(0,0) = UNKNOWN");
    }

    @Sentence("BAD_VALUE")
    static void promise19TellOfAKnotWhatIsBeyond() {
        Trials.unchanged("take(0)", "knot(0,-1) = BAD_VALUE", "knot(0,5) = BAD_VALUE", "knot(3,MIN) = BAD_VALUE",
            "knot(3,MAX) = BAD_VALUE");
    }

    @Sentence({"UNKNOWN; BAD_VALUE", ORDER})
    static void promise19TellOfAKnotBeyondWhatIsBeyond() {
        Trials.unchanged("take(0)", "knot(4,5) = UNKNOWN", "knot(-1,-1) = UNKNOWN", "knot(MAX,MIN) = UNKNOWN");
        Trials.unchanged("", "knot(0,5) = UNKNOWN");
    }

    @Sentence({"0 for its threads (as bits), 1 for its neighbours (as bits)", "3 for the knots of its part (as bits)"})
    static void promise19TellAKnotWithoutThreads() {
        Trials.unchanged("addKnot()", "knot(0,0) = 0", "knot(0,1) = 0", "knot(0,2) = 0", "knot(0,3) = 1", "knot(0,4) = NONE");
        Trials.unchanged(Nets.ALONE_14, "knot(13,0) = 0", "knot(13,1) = 0", "knot(13,2) = 0", "knot(13,3) = 8192",
            "knot(13,4) = NONE");
    }

    @Sentence({"2 for whether it is wrong (1, otherwise 0)", WRONG})
    static void promise19TellWhetherAKnotIsWrong() {
        Trials.unchanged("knots(4) ties(0-1,0-2,0-3) paints(1,2,1)", "knot(0,2) = 1", "knot(1,2) = 0", "knot(3,2) = 0");
        Trials.unchanged("knots(4) ties(0-1,0-2,0-3) paints(0,0,0)", "knot(0,2) = 1");
        Trials.unchanged("knots(4) ties(0-1,0-2,0-3) paints(-,2,2)", "knot(0,2) = 1");
    }

    @Sentence({"2 for whether it is wrong (1, otherwise 0)", WRONG, "A thread has a colour (0, 1 or 2) or none (at first)."})
    static void promise19TellThatThreadsWithoutColourMakeNoKnotWrong() {
        Trials.unchanged("knots(4) ties(0-1,0-2,0-3)", "knot(0,2) = 0");
        Trials.unchanged("knots(4) ties(0-1,0-2,0-3) paint(1,0)", "knot(0,2) = 0");
        Trials.unchanged("knots(4) ties(0-1,0-2,0-3) paints(0,2,1)", "knot(0,2) = 0");
    }

    @Sentence({"3 for the knots of its part (as bits)", PART})
    static void promise19TellTheKnotsOfAPart() {
        Trials.unchanged("knots(14) ties(0-13,13-5,2-3)", "knot(0,3) = 8225", "knot(5,3) = 8225", "knot(13,3) = 8225",
            "knot(2,3) = 12", "knot(3,3) = 12", "knot(1,3) = 2", "knot(12,3) = 4096");
        Trials.unchanged("knots(14) ties(12-13,11-12,10-11,9-10,8-9,7-8,6-7,5-6,4-5,3-4,2-3,1-2,0-1)", "knot(0,3) = 16383",
            "knot(13,3) = 16383", "knot(7,3) = 16383");
    }

    @Sentence({"4 for the length of the shortest circle through it (NONE if there is none)", CIRCLE})
    static void promise19TellTheLeastAndTheGreatestCircleThroughAKnot() {
        Trials.unchanged("take(0)", "knot(0,4) = 3", "knot(3,4) = 3");
        Trials.unchanged(Nets.RING_14, "knot(0,4) = 14", "knot(7,4) = 14", "knot(13,4) = 14");
    }

    @Sentence({"4 for the length of the shortest circle through it (NONE if there is none)", CIRCLE})
    static void promise19TellThatNoCircleIsThroughAKnot() {
        Trials.unchanged("knots(3) ties(0-1,1-2)", "knot(0,4) = NONE", "knot(1,4) = NONE");
        Trials.unchanged(TWO_TRIANGLES, "knot(3,4) = NONE", "knot(7,4) = NONE", "knot(2,4) = 3", "knot(4,4) = 3");
    }

    @Sentence("4 for the length of the shortest circle through it (NONE if there is none)")
    static void promise19TellTheShortestOfTwoCirclesThroughAKnot() {
        Trials.unchanged("knots(7) ties(0-1,1-2,2-3,3-4,4-5,0-5,2-6,4-6)", "knot(0,4) = 6", "knot(2,4) = 4", "knot(3,4) = 4",
            "knot(6,4) = 4");
    }

    // ---- promise 20: thread

    @Sentence({"thread: a thread", "what: 0 for its lesser knot, 1 for its greater knot, 2 for its colour (NONE without one)"})
    static void promise20TellTheLeastThread() {
        Trials.unchanged(Nets.GREATEST_PAINTED, "thread(0,0) = 0", "thread(0,1) = 1", "thread(0,2) = 0", "thread(0,3) = 0",
            "thread(0,4) = 6", "thread(0,5) = 8");
    }

    @Sentence({"thread: a thread", "what: 0 for its lesser knot, 1 for its greater knot, 2 for its colour (NONE without one)"})
    static void promise20TellTheGreatestThread() {
        Trials.unchanged(Nets.GREATEST_PAINTED, "thread(20,0) = 3", "thread(20,1) = 12", "thread(20,2) = 2", "thread(20,3) = 0",
            "thread(20,4) = 6", "thread(20,5) = 8");
    }

    @Sentence("UNKNOWN")
    static void promise20TellAThreadBeyond() {
        Trials.unchanged(Nets.PAINTED_K4, "thread(-1,0) = UNKNOWN", "thread(6,0) = UNKNOWN", "thread(MIN,0) = UNKNOWN",
            "thread(MAX,0) = UNKNOWN", "thread(32,5) = UNKNOWN");
        Trials.unchanged(Nets.GREATEST, "thread(21,0) = UNKNOWN");
        Trials.unchanged(Nets.ALONE_14, "thread(0,0) = UNKNOWN", "thread(0,2) = UNKNOWN");
        Trials.unchanged("", "thread(0,0) = UNKNOWN");
    }

    @Sentence("BAD_VALUE")
    static void promise20TellOfAThreadWhatIsBeyond() {
        Trials.unchanged(Nets.PAINTED_K4, "thread(0,-1) = BAD_VALUE", "thread(0,6) = BAD_VALUE", "thread(5,MIN) = BAD_VALUE",
            "thread(5,MAX) = BAD_VALUE");
    }

    @Sentence({"UNKNOWN; BAD_VALUE", ORDER})
    static void promise20TellOfAThreadBeyondWhatIsBeyond() {
        Trials.unchanged("take(0)", "thread(6,6) = UNKNOWN", "thread(-1,-1) = UNKNOWN", "thread(MIN,MAX) = UNKNOWN");
        Trials.unchanged("", "thread(0,6) = UNKNOWN");
    }

    @Sentence("2 for its colour (NONE without one)")
    static void promise20TellTheColourOfAThread() {
        Trials.unchanged("take(0) paints(0,1,2)", "thread(0,2) = 0", "thread(1,2) = 1", "thread(2,2) = 2", "thread(3,2) = NONE",
            "thread(5,2) = NONE");
    }

    @Sentence({"3 for whether it is a bridge (1, otherwise 0)", BRIDGE})
    static void promise20TellWhetherAThreadIsABridge() {
        Trials.unchanged(TWO_TRIANGLES, "thread(0,3) = 0", "thread(2,3) = 0", "thread(3,3) = 1", "thread(4,3) = 1",
            "thread(7,3) = 0", "thread(8,3) = 1");
        Trials.unchanged("knots(2) ties(0-1)", "thread(0,3) = 1");
        Trials.unchanged(Nets.RING_14, "thread(0,3) = 0", "thread(13,3) = 0");
        Trials.unchanged(Nets.RING_14 + "removeThread(6)", "thread(0,3) = 1", "thread(12,3) = 1");
    }

    @Sentence({"4 for the length of the shortest circle through it (NONE if there is none)", CIRCLE})
    static void promise20TellTheLeastAndTheGreatestCircleThroughAThread() {
        Trials.unchanged("take(0)", "thread(0,4) = 3", "thread(5,4) = 3");
        Trials.unchanged(Nets.RING_14, "thread(0,4) = 14", "thread(13,4) = 14");
        Trials.unchanged(Nets.RING_14 + "addThread(0,7)", "thread(14,4) = 8", "thread(0,4) = 8", "thread(13,4) = 8");
    }

    @Sentence({"4 for the length of the shortest circle through it (NONE if there is none)", CIRCLE})
    static void promise20TellThatNoCircleIsThroughAThread() {
        Trials.unchanged("knots(2) ties(0-1)", "thread(0,4) = NONE");
        Trials.unchanged(TWO_TRIANGLES, "thread(3,4) = NONE", "thread(8,4) = NONE", "thread(7,4) = 3");
        Trials.unchanged(Nets.RING_14 + "removeThread(6)", "thread(0,4) = NONE", "thread(12,4) = NONE");
    }

    @Sentence("5 for how many covers it is in")
    static void promise20TellThatAThreadIsInNoCover() {
        Trials.unchanged("knots(3) ties(0-1,1-2,0-2)", "thread(0,5) = 0", "thread(2,5) = 0");
        Trials.unchanged("knots(3) ties(0-1)", "thread(0,5) = 0");
        Trials.unchanged("take(4)", "thread(0,5) = 0", "thread(14,5) = 0");
    }

    @Sentence("5 for how many covers it is in")
    static void promise20TellThatAThreadIsInAllCovers() {
        Trials.unchanged("take(4)", "thread(7,5) = 4", "count(6) = 4");
        Trials.unchanged("knots(2) ties(0-1)", "thread(0,5) = 1", "count(6) = 1");
    }

    // ---- promise 21: between

    @Sentence({"one: a knot", "other: a knot", "Returns the thread between them"})
    static void promise21TellTheLeastAndTheGreatestThreadBetweenKnots() {
        Trials.unchanged(Nets.GREATEST, "between(0,1) = 0", "between(1,0) = 0", "between(3,12) = 20", "between(12,3) = 20",
            "between(0,13) = 13", "between(13,0) = 13", "between(12,13) = 12");
    }

    @Sentence("UNKNOWN")
    static void promise21TellBetweenAKnotBeyondAndAnother() {
        Trials.unchanged("take(0)", "between(-1,0) = UNKNOWN", "between(4,0) = UNKNOWN", "between(MIN,0) = UNKNOWN",
            "between(MAX,0) = UNKNOWN", "between(32,1) = UNKNOWN");
        Trials.unchanged(Nets.GREATEST, "between(14,0) = UNKNOWN");
    }

    @Sentence("UNKNOWN")
    static void promise21TellBetweenAKnotAndOneBeyond() {
        Trials.unchanged("take(0)", "between(0,-1) = UNKNOWN", "between(0,4) = UNKNOWN", "between(0,MIN) = UNKNOWN",
            "between(0,MAX) = UNKNOWN", "between(1,32) = UNKNOWN");
        Trials.unchanged(Nets.GREATEST, "between(0,14) = UNKNOWN");
    }

    @Sentence("UNKNOWN; NONE if there is none.")
    static void promise21TellBetweenAKnotBeyondAndItself() {
        Trials.unchanged("take(0)", "between(4,4) = UNKNOWN", "between(-1,-1) = UNKNOWN");
        Trials.unchanged("", "between(0,0) = UNKNOWN");
    }

    @Sentence("NONE if there is none.")
    static void promise21TellBetweenAKnotAndItself() {
        Trials.unchanged("take(0)", "between(0,0) = NONE", "between(3,3) = NONE");
        Trials.unchanged("addKnot()", "between(0,0) = NONE");
    }

    @Sentence("NONE if there is none.")
    static void promise21TellBetweenKnotsWithoutAThread() {
        Trials.unchanged(Nets.GREATEST, "between(0,2) = NONE", "between(13,1) = NONE", "between(11,13) = NONE");
        Trials.unchanged(Nets.ALONE_14, "between(0,13) = NONE", "between(13,0) = NONE");
    }

    // ---- promise 22: chain

    @Sentence({"thread: a thread", "colour: 0 to 2: the other colour", "Returns the chain (as bits)", BITS})
    static void promise22TellTheChainOfTheLeastAndTheGreatestThread() {
        Trials.unchanged(Nets.GREATEST_PAINTED, "chain(0,1) = 16383", "chain(0,2) = 2086229", "chain(20,0) = 2086229",
            "chain(20,1) = 2091690");
    }

    @Sentence("(itself too)")
    static void promise22TellTheChainOfAThreadAlone() {
        Trials.unchanged("knots(2) ties(0-1) paint(0,0)", "chain(0,1) = 1", "chain(0,2) = 1");
        Trials.unchanged(Nets.GREATEST + "paint(20,1)", "chain(20,0) = 1048576", "chain(20,2) = 1048576");
    }

    @Sentence("Returns the chain (as bits)")
    static void promise22TellAChainOfAllThreads() {
        Trials.unchanged(ALL_COLOUR_0, "chain(0,1) = 2097151", "chain(20,2) = 2097151");
    }

    @Sentence("UNKNOWN")
    static void promise22TellTheChainOfAThreadBeyond() {
        Trials.unchanged(Nets.PAINTED_K4, "chain(-1,0) = UNKNOWN", "chain(6,0) = UNKNOWN", "chain(MIN,0) = UNKNOWN",
            "chain(MAX,0) = UNKNOWN", "chain(32,1) = UNKNOWN");
        Trials.unchanged(Nets.GREATEST_PAINTED, "chain(21,0) = UNKNOWN");
        Trials.unchanged("", "chain(0,0) = UNKNOWN");
    }

    @Sentence({"UNKNOWN; BAD_VALUE (also if it is the colour of the thread)", ORDER})
    static void promise22TellTheChainOfAThreadBeyondWithAColourBeyond() {
        Trials.unchanged(Nets.PAINTED_K4, "chain(6,3) = UNKNOWN", "chain(-1,-1) = UNKNOWN");
        Trials.unchanged("", "chain(0,3) = UNKNOWN");
    }

    @Sentence("BAD_VALUE (also if it is the colour of the thread)")
    static void promise22TellTheChainWithAColourBeyond() {
        Trials.unchanged(Nets.PAINTED_K4, "chain(0,-1) = BAD_VALUE", "chain(0,3) = BAD_VALUE", "chain(0,MIN) = BAD_VALUE",
            "chain(0,MAX) = BAD_VALUE");
    }

    @Sentence("(also if it is the colour of the thread)")
    static void promise22TellTheChainWithItsOwnColour() {
        Trials.unchanged(Nets.PAINTED_K4, "chain(0,0) = BAD_VALUE", "chain(1,1) = BAD_VALUE", "chain(2,2) = BAD_VALUE");
    }

    @Sentence("BAD_VALUE (also if it is the colour of the thread); NOT_POSSIBLE if the thread has no colour.")
    static void promise22TellTheChainOfAThreadWithoutColourWithAColourBeyond() {
        Trials.unchanged("take(0)", "chain(0,3) = BAD_VALUE", "chain(0,-1) = BAD_VALUE");
    }

    @Sentence("NOT_POSSIBLE if the thread has no colour.")
    static void promise22TellTheChainOfAThreadWithoutColour() {
        Trials.unchanged("take(0)", "chain(0,0) = NOT_POSSIBLE", "chain(5,2) = NOT_POSSIBLE");
        Trials.unchanged(Nets.GREATEST_PAINTED + "paint(20,3)", "chain(20,0) = NOT_POSSIBLE", "chain(20,2) = NOT_POSSIBLE");
    }

    // ---- promise 23: paintings

    @Sentence({"what: 0 for whether there is any (1, otherwise 0)", "A painting gives each thread a colour (without threads there "
        + "is one)"})
    static void promise23TellThePaintingsWithoutThreads() {
        Trials.unchanged("", "paintings(0) = 1", "paintings(1) = 1", "paintings(2) = 1");
        Trials.unchanged(Nets.ALONE_14, "paintings(0) = 1", "paintings(1) = 1", "paintings(2) = 1");
    }

    @Sentence({"2 for how many there are at all", "it is good if no knot is wrong in it."})
    static void promise23TellThePaintingsOfOneThread() {
        Trials.unchanged("knots(2) ties(0-1)", "paintings(0) = 1", "paintings(1) = 3", "paintings(2) = 3");
        Trials.unchanged("knots(3) ties(0-1,1-2)", "paintings(2) = 6");
    }

    @Sentence("2 for how many there are at all")
    static void promise23TellThePaintingsOfTheGreatestNets() {
        Trials.unchanged(Nets.GREATEST, "paintings(0) = 1", "paintings(1) = 48", "paintings(2) = 48");
        Trials.unchanged(Nets.RING_14, "paintings(0) = 1", "paintings(1) = 16386", "paintings(2) = 16386");
    }

    @Sentence({"what: 0 for whether there is any (1, otherwise 0)", "2 for how many there are at all"})
    static void promise23TellThatThereIsNoPainting() {
        Trials.unchanged("take(2)", "paintings(0) = 0", "paintings(1) = 0", "paintings(2) = 0");
        Trials.unchanged("take(4) paint(7,1)", "paintings(0) = 0", "paintings(1) = 0", "paintings(2) = 0");
        Trials.unchanged("take(2) grow(0) grow(0)", "paintings(0) = 0", "paintings(2) = 0");
    }

    @Sentence({"what: 0 for whether there is any (1, otherwise 0)", "A painting gives each thread a colour"})
    static void promise23TellThatOneThreadMakesThePaintingsEnd() {
        Trials.unchanged(Nets.ONE_THREAD_TOO_MANY, "paintings(0) = 0", "paintings(1) = 0", "paintings(2) = 0");
        Trials.unchanged(Nets.ONE_THREAD_TOO_MANY + "removeThread(0)", "paintings(0) = 1", "paintings(2) = 6");
    }

    @Sentence("1 for how many there are in which the colours that threads have now are kept (those without one may have any)")
    static void promise23TellThePaintingsWhereAllThreadsHaveColours() {
        Trials.unchanged(Nets.PAINTED_K4, "paintings(0) = 1", "paintings(1) = 1", "paintings(2) = 6");
        Trials.unchanged(Nets.GREATEST_PAINTED, "paintings(1) = 1", "paintings(2) = 48");
    }

    @Sentence("1 for how many there are in which the colours that threads have now are kept (those without one may have any)")
    static void promise23TellThePaintingsWhereAKnotIsWrong() {
        Trials.unchanged("take(0) paints(1,1)", "paintings(0) = 1", "paintings(1) = 0", "paintings(2) = 6");
        Trials.unchanged(Nets.PAINTED_K4 + "paint(5,1)", "paintings(1) = 0");
        Trials.unchanged("knots(5) ties(0-1,1-2,3-4) paints(0,0)", "paintings(1) = 0", "paintings(2) = 18");
    }

    @Sentence("1 for how many there are in which the colours that threads have now are kept (those without one may have any)")
    static void promise23TellThePaintingsWhereSomeThreadsHaveColours() {
        Trials.unchanged("take(0) paint(5,2)", "paintings(1) = 2", "paintings(2) = 6");
        Trials.unchanged("take(0) paints(0,-,-,-,-,1)", "paintings(0) = 1", "paintings(1) = 0", "paintings(2) = 6");
        Trials.unchanged("knots(6) ties(0-1,2-3,4-5) paint(1,2)", "paintings(1) = 9", "paintings(2) = 27");
    }

    @Sentence("BAD_VALUE")
    static void promise23TellOfPaintingsWhatIsBeyond() {
        Trials.unchanged("take(0)", "paintings(-1) = BAD_VALUE", "paintings(3) = BAD_VALUE", "paintings(MIN) = BAD_VALUE",
            "paintings(MAX) = BAD_VALUE");
        Trials.unchanged("", "paintings(-1) = BAD_VALUE", "paintings(3) = BAD_VALUE");
    }

    // ---- promise 24: firstPainting

    @Sentence({"thread: a thread", "Returns its colour in the first of all good paintings"})
    static void promise24TellTheFirstPaintingAtTheLeastAndTheGreatestThread() {
        Trials.unchanged(Nets.GREATEST, "firstPainting(0) = 0", "firstPainting(1) = 1", "firstPainting(13) = 1",
            "firstPainting(14) = 2", "firstPainting(20) = 2");
        Trials.unchanged("knots(2) ties(0-1)", "firstPainting(0) = 0");
    }

    @Sentence("Paintings have an order: the one comes first that has the lower colour at the first thread (by number) at which "
        + "they differ.")
    static void promise24TellTheFirstPaintingByTheNumbersOfThreads() {
        Trials.unchanged("take(0)", "firstPainting(0) = 0", "firstPainting(1) = 1", "firstPainting(2) = 2",
            "firstPainting(3) = 2", "firstPainting(4) = 1", "firstPainting(5) = 0");
        Trials.unchanged("knots(5) ties(0-1,3-4,1-2,2-3)", "firstPainting(0) = 0", "firstPainting(1) = 0",
            "firstPainting(2) = 1", "firstPainting(3) = 2");
    }

    @Sentence("Returns its colour in the first of all good paintings")
    static void promise24TellTheFirstPaintingWhateverColoursThreadsHave() {
        Trials.unchanged("take(0) paints(2,2,2)", "firstPainting(0) = 0", "firstPainting(2) = 2", "firstPainting(5) = 0");
        Trials.unchanged(ALL_COLOUR_0, "firstPainting(0) = 0", "firstPainting(1) = 1", "firstPainting(20) = 2");
    }

    @Sentence("UNKNOWN")
    static void promise24TellTheFirstPaintingAtAThreadBeyond() {
        Trials.unchanged("take(0)", "firstPainting(-1) = UNKNOWN", "firstPainting(6) = UNKNOWN", "firstPainting(MIN) = UNKNOWN",
            "firstPainting(MAX) = UNKNOWN", "firstPainting(32) = UNKNOWN");
        Trials.unchanged(Nets.GREATEST, "firstPainting(21) = UNKNOWN");
        Trials.unchanged("", "firstPainting(0) = UNKNOWN");
    }

    @Sentence({"UNKNOWN; NONE if there is none.", "NONE is no error; it is returned only if no error applies."})
    static void promise24TellTheFirstPaintingAtAThreadBeyondWhereThereIsNone() {
        Trials.unchanged("take(2)", "firstPainting(15) = UNKNOWN", "firstPainting(-1) = UNKNOWN");
    }

    @Sentence("NONE if there is none.")
    static void promise24TellThatThereIsNoFirstPainting() {
        Trials.unchanged("take(2)", "firstPainting(0) = NONE", "firstPainting(14) = NONE");
        Trials.unchanged("take(2) grow(0) grow(0)", "firstPainting(0) = NONE", "firstPainting(20) = NONE");
        Trials.unchanged(Nets.ONE_THREAD_TOO_MANY, "firstPainting(0) = NONE", "firstPainting(6) = NONE");
    }

    // ---- promise 25: takingOut

    @Sentence({"what: 0 for how many threads it has, 1 for the set", "A set of threads is enough if there is a good painting of "
        + "the net without them."})
    static void promise25TakeNothingOut() {
        Trials.unchanged(Nets.GREATEST, "takingOut(0) = 0", "takingOut(1) = 0");
        Trials.unchanged("take(0)", "takingOut(0) = 0", "takingOut(1) = 0");
    }

    @Sentence("Tells the first least set of threads that is enough.")
    static void promise25TakeOutOfANetWithoutThreads() {
        Trials.unchanged("", "takingOut(0) = 0", "takingOut(1) = 0");
        Trials.unchanged(Nets.ALONE_14, "takingOut(0) = 0", "takingOut(1) = 0");
    }

    @Sentence({"the one that is the least as a number (1 for the thread 0, 2 for 1, 4 for 2, and so on).",
        "of the sets that are enough with the fewest threads"})
    static void promise25TakeOneThreadOut() {
        Trials.unchanged(Nets.ONE_THREAD_TOO_MANY, "takingOut(0) = 1", "takingOut(1) = 1");
        Trials.unchanged("knots(7) ties(5-6,0-1,0-2,1-3,2-3,1-4,2-4,3-4)", "takingOut(0) = 1", "takingOut(1) = 2");
    }

    @Sentence({"the one that is the least as a number (1 for the thread 0, 2 for 1, 4 for 2, and so on).",
        "of the sets that are enough with the fewest threads"})
    static void promise25TakeTwoThreadsOut() {
        Trials.unchanged("take(2)", "takingOut(0) = 2", "takingOut(1) = 5");
        Trials.unchanged("take(4)", "takingOut(0) = 2", "takingOut(1) = 257");
        Trials.unchanged("take(2) grow(0) grow(11)", "takingOut(0) = 2", "takingOut(1) = 5");
    }

    @Sentence("the one that is the least as a number (1 for the thread 0, 2 for 1, 4 for 2, and so on).")
    static void promise25TakeGreatThreadsOut() {
        Trials.unchanged("knots(14) ties(0-1,0-2,0-3,1-2,1-3,2-3,4-5,5-6,6-7,7-8,4-8,4-6,5-7,9-10,9-11,10-12,11-12,10-13,11-13,"
            + "12-13)", "takingOut(0) = 2", "takingOut(1) = 8256");
    }

    @Sentence("Tells the first least set of threads that is enough.")
    static void promise25TakeOutWhateverColoursThreadsHave() {
        Trials.unchanged(ALL_COLOUR_0, "takingOut(0) = 0", "takingOut(1) = 0");
        Trials.unchanged("take(2) paints(0,0,1,1)", "takingOut(0) = 2", "takingOut(1) = 5");
    }

    @Sentence("BAD_VALUE")
    static void promise25TellOfTakingOutWhatIsBeyond() {
        Trials.unchanged("take(2)", "takingOut(-1) = BAD_VALUE", "takingOut(2) = BAD_VALUE", "takingOut(MIN) = BAD_VALUE",
            "takingOut(MAX) = BAD_VALUE");
        Trials.unchanged("", "takingOut(-1) = BAD_VALUE", "takingOut(2) = BAD_VALUE");
    }

    public static void main(String[] args) {
        Trials.runAll(ToldBoundaryTest.class);
    }
}
