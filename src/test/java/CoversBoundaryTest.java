/** The boundary cases of promises 26 to 29: covers, the circles that they leave, and counts. */
final class CoversBoundaryTest {
    private static final String COVER = "A cover is a set of threads such that each knot has just one of them (without knots: the "
        + "empty set).";
    private static final String FULL_NET = "A net is full if it has knots, and each knot has three threads.";
    private static final String ODD = "a circle is odd if it has an odd number of threads.";
    private static final String LEFT = "The threads that are not in a cover of a full net make circles";
    private static final String ORDER = "Where several errors can apply, the order of the @return line is the order of the "
        + "checks.";

    /** Six knots and a cube: 54 covers, the most of all nets. */
    private static final String MOST_COVERS = "knots(14) ties(0-3,0-4,0-5,1-3,1-4,1-5,2-3,2-4,2-5,6-7,7-8,8-9,6-9,10-11,11-12,"
        + "12-13,10-13,6-10,7-11,8-12,9-13) ";
    /** Two times two triangles: a cover can leave four circles, all odd. */
    private static final String TWO_PRISMS = "knots(12) ties(0-1,1-2,0-2,3-4,4-5,3-5,0-3,1-4,2-5,6-7,7-8,6-8,9-10,10-11,9-11,"
        + "6-9,7-10,8-11) ";

    // ---- promise 26: cover

    @Sentence({"rank: a rank among the covers, from 0", "Returns the cover", "Covers have an order: the least as a number first."})
    static void promise26TellTheLeastAndTheGreatestCover() {
        Trials.unchanged("take(0)", "cover(0) = 12", "cover(1) = 18", "cover(2) = 33");
        Trials.unchanged(Nets.GREATEST, "cover(0) = 5461", "cover(1) = 10922", "cover(23) = 2080768");
        Trials.unchanged(MOST_COVERS, "cover(0) = 43604", "cover(53) = 1966353");
    }

    @Sentence("NONE if there are not so many.")
    static void promise26TellACoverTooMany() {
        Trials.unchanged("take(0)", "cover(3) = NONE", "cover(4) = NONE", "cover(MAX) = NONE");
        Trials.unchanged(Nets.GREATEST, "cover(24) = NONE", "cover(MAX) = NONE");
        Trials.unchanged(MOST_COVERS, "cover(54) = NONE", "cover(80) = NONE", "cover(81) = NONE");
    }

    @Sentence("BAD_VALUE if rank is negative")
    static void promise26TellACoverOfANegativeRank() {
        Trials.unchanged("take(0)", "cover(-1) = BAD_VALUE", "cover(MIN) = BAD_VALUE");
        Trials.unchanged("knots(3) ties(0-1,1-2)", "cover(-1) = BAD_VALUE");
        Trials.unchanged("", "cover(-1) = BAD_VALUE");
    }

    @Sentence("(without knots: the empty set).")
    static void promise26TellTheCoverWithoutKnots() {
        Trials.unchanged("", "cover(0) = 0", "cover(1) = NONE", "count(6) = 1");
    }

    @Sentence({COVER, "NONE if there are not so many."})
    static void promise26TellThatThereIsNoCover() {
        Trials.unchanged("addKnot()", "cover(0) = NONE");
        Trials.unchanged(Nets.ALONE_14, "cover(0) = NONE");
        Trials.unchanged("knots(3) ties(0-1,1-2,0-2)", "cover(0) = NONE");
        Trials.unchanged("knots(4) ties(0-1,0-2,0-3)", "cover(0) = NONE");
        Trials.unchanged("take(0) addKnot()", "cover(0) = NONE");
    }

    @Sentence({COVER, "Returns the cover"})
    static void promise26TellTheOnlyCover() {
        Trials.unchanged("knots(2) ties(0-1)", "cover(0) = 1", "cover(1) = NONE");
        Trials.unchanged("knots(14) ties(0-1,2-3,4-5,6-7,8-9,10-11,12-13)", "cover(0) = 127", "cover(1) = NONE");
        Trials.unchanged("knots(4) ties(1-2,0-1,2-3)", "cover(0) = 6", "cover(1) = NONE");
    }

    // ---- promise 27: circles

    @Sentence({"rank: a rank among the covers, from 0", "what: 0 for how many circles it leaves, 1 for how many odd ones, 2 for "
        + "the length of the longest one", LEFT, ODD})
    static void promise27TellTheCirclesOfTheLeastAndTheGreatestCover() {
        Trials.unchanged("take(3)", "circles(0,0) = 1", "circles(0,1) = 0", "circles(0,2) = 6", "circles(3,0) = 2",
            "circles(3,1) = 2", "circles(3,2) = 3");
        Trials.unchanged(MOST_COVERS, "circles(53,2) = 6");
    }

    @Sentence({"0 for how many circles it leaves", "2 for the length of the longest one"})
    static void promise27TellTheLongestAndTheShortestCircle() {
        Trials.unchanged(Nets.GREATEST, "circles(0,0) = 1", "circles(0,1) = 0", "circles(0,2) = 14", "circles(23,2) = 14");
        Trials.unchanged("take(0)", "circles(0,0) = 1", "circles(0,1) = 0", "circles(0,2) = 4");
    }

    @Sentence({"0 for how many circles it leaves, 1 for how many odd ones", ODD})
    static void promise27TellTheMostCircles() {
        Trials.unchanged(TWO_PRISMS, "circles(15,0) = 4", "circles(15,1) = 4", "circles(15,2) = 3", "circles(3,0) = 3",
            "circles(3,1) = 2", "circles(3,2) = 6", "circles(0,0) = 2", "circles(0,1) = 0");
    }

    @Sentence({"NOT_POSSIBLE if the net is not full", FULL_NET})
    static void promise27TellTheCirclesOfANetThatIsNotFull() {
        Trials.unchanged("", "circles(0,0) = NOT_POSSIBLE");
        Trials.unchanged(Nets.ALONE_14, "circles(0,0) = NOT_POSSIBLE");
        Trials.unchanged("take(0) addKnot()", "circles(0,0) = NOT_POSSIBLE");
        Trials.unchanged(Nets.GREATEST + "removeThread(20)", "circles(0,0) = NOT_POSSIBLE");
        Trials.unchanged(Nets.RING_14, "circles(0,0) = NOT_POSSIBLE");
    }

    @Sentence({"NOT_POSSIBLE if the net is not full; BAD_VALUE (rank is negative, or what); NONE if there are not so many.", ORDER})
    static void promise27TellTheCirclesOfANetThatIsNotFullAndWhatIsBeyond() {
        Trials.unchanged("", "circles(-1,0) = NOT_POSSIBLE", "circles(0,3) = NOT_POSSIBLE", "circles(0,-1) = NOT_POSSIBLE",
            "circles(MAX,0) = NOT_POSSIBLE", "circles(MIN,MIN) = NOT_POSSIBLE");
        Trials.unchanged("take(0) removeThread(0)", "circles(-1,3) = NOT_POSSIBLE", "circles(9,0) = NOT_POSSIBLE");
    }

    @Sentence("BAD_VALUE (rank is negative, or what)")
    static void promise27TellTheCirclesOfANegativeRank() {
        Trials.unchanged("take(0)", "circles(-1,0) = BAD_VALUE", "circles(MIN,2) = BAD_VALUE");
    }

    @Sentence("BAD_VALUE (rank is negative, or what)")
    static void promise27TellOfCirclesWhatIsBeyond() {
        Trials.unchanged("take(0)", "circles(0,-1) = BAD_VALUE", "circles(0,3) = BAD_VALUE", "circles(2,MIN) = BAD_VALUE",
            "circles(2,MAX) = BAD_VALUE");
    }

    @Sentence({"BAD_VALUE (rank is negative, or what); NONE if there are not so many.",
        "NONE is no error; it is returned only if no error applies."})
    static void promise27TellOfTheCirclesOfACoverTooManyWhatIsBeyond() {
        Trials.unchanged("take(0)", "circles(3,3) = BAD_VALUE", "circles(3,-1) = BAD_VALUE", "circles(MAX,MAX) = BAD_VALUE");
    }

    @Sentence("NONE if there are not so many.")
    static void promise27TellTheCirclesOfACoverTooMany() {
        Trials.unchanged("take(0)", "circles(3,0) = NONE", "circles(3,1) = NONE", "circles(3,2) = NONE", "circles(MAX,0) = NONE");
        Trials.unchanged(MOST_COVERS, "circles(54,0) = NONE", "circles(53,0) = 3");
    }

    // ---- promise 28: fewestOdd

    @Sentence("Returns the fewest odd circles that any cover leaves")
    static void promise28TellThatACoverLeavesNoOddCircle() {
        Trials.unchanged("take(0)", "fewestOdd() = 0");
        Trials.unchanged(Nets.GREATEST, "fewestOdd() = 0");
        Trials.unchanged(TWO_PRISMS, "fewestOdd() = 0");
    }

    @Sentence("Returns the fewest odd circles that any cover leaves")
    static void promise28TellThatEachCoverLeavesOddCircles() {
        Trials.unchanged("take(2)", "fewestOdd() = 2");
        Trials.unchanged("take(4)", "fewestOdd() = 2");
        Trials.unchanged("take(2) grow(0) grow(11)", "fewestOdd() = 2");
        Trials.unchanged("take(2) knots(4) ties(10-11,10-12,10-13,11-12,11-13,12-13)", "fewestOdd() = 2");
    }

    @Sentence({"NOT_POSSIBLE if the net is not full", FULL_NET})
    static void promise28TellTheFewestOfANetThatIsNotFull() {
        Trials.unchanged("", "fewestOdd() = NOT_POSSIBLE");
        Trials.unchanged(Nets.ALONE_14, "fewestOdd() = NOT_POSSIBLE");
        Trials.unchanged(Nets.GREATEST + "removeThread(20)", "fewestOdd() = NOT_POSSIBLE");
        Trials.unchanged("take(3) addKnot()", "fewestOdd() = NOT_POSSIBLE");
    }

    @Sentence("NOT_POSSIBLE if the net is not full; NONE if there is no cover.")
    static void promise28TellTheFewestOfANetThatIsNotFullAndHasNoCover() {
        Trials.unchanged("knots(3) ties(0-1,1-2,0-2)", "fewestOdd() = NOT_POSSIBLE");
        Trials.unchanged("addKnot()", "fewestOdd() = NOT_POSSIBLE");
    }

    // ---- promise 29: count

    @Sentence({"what: 0 for knots, 1 for threads", "3 for parts, 4 for bridges"})
    static void promise29CountOfTheEmptyNet() {
        Trials.unchanged("", "count(0) = 0", "count(1) = 0", "count(2) = 0", "count(3) = 0", "count(4) = 0", "count(5) = NONE",
            "count(6) = 1", "count(7) = 0", "count(8) = 0");
    }

    @Sentence({"what: 0 for knots, 1 for threads", "8 for threads without a colour"})
    static void promise29CountOfTheGreatestNet() {
        Trials.unchanged(Nets.GREATEST, "count(0) = 14", "count(1) = 21", "count(2) = 1", "count(3) = 1", "count(4) = 0",
            "count(5) = 6", "count(6) = 24", "count(7) = 0", "count(8) = 21");
    }

    @Sentence({"0 for knots, 1 for threads", "3 for parts"})
    static void promise29CountOf14KnotsWithoutThreads() {
        Trials.unchanged(Nets.ALONE_14, "count(0) = 14", "count(1) = 0", "count(2) = 0", "count(3) = 14", "count(4) = 0",
            "count(5) = NONE", "count(6) = 0", "count(7) = 0", "count(8) = 0");
    }

    @Sentence("BAD_VALUE")
    static void promise29CountWhatIsBeyond() {
        Trials.unchanged("take(0)", "count(-1) = BAD_VALUE", "count(11) = BAD_VALUE", "count(MIN) = BAD_VALUE",
            "count(MAX) = BAD_VALUE");
        Trials.unchanged("", "count(-1) = BAD_VALUE", "count(11) = BAD_VALUE");
    }

    @Sentence({"2 for whether the net is full (1, otherwise 0)", FULL_NET})
    static void promise29CountWhetherTheNetIsFull() {
        Trials.unchanged("take(0)", "count(2) = 1");
        Trials.unchanged("", "count(2) = 0");
        Trials.unchanged("take(0) addKnot()", "count(2) = 0");
        Trials.unchanged("take(0) removeThread(5)", "count(2) = 0");
        Trials.unchanged(Nets.GREATEST + "removeThread(0)", "count(2) = 0");
        Trials.unchanged("knots(2) ties(0-1)", "count(2) = 0");
    }

    @Sentence({"3 for parts", "A part of the net is made of all knots that can be reached from one another."})
    static void promise29CountParts() {
        Trials.unchanged("addKnot()", "count(3) = 1");
        Trials.unchanged("knots(14) ties(0-13)", "count(3) = 13");
        Trials.unchanged("knots(14) ties(12-13,11-12,10-11,9-10,8-9,7-8,6-7,5-6,4-5,3-4,2-3,1-2,0-1)", "count(3) = 1");
        Trials.unchanged(TWO_PRISMS, "count(3) = 2");
        Trials.unchanged("take(4) removeThread(7)", "count(3) = 2");
    }

    @Sentence({"4 for bridges", "A thread is a bridge if no circle goes through it."})
    static void promise29CountBridges() {
        Trials.unchanged(Nets.RING_14, "count(4) = 0");
        Trials.unchanged(Nets.RING_14 + "removeThread(0)", "count(4) = 13");
        Trials.unchanged("knots(2) ties(0-1)", "count(4) = 1");
        Trials.unchanged("take(4)", "count(4) = 1");
    }

    @Sentence({"5 for the length of the shortest circle (NONE if there is none)", "A circle is a way along threads that comes back "
        + "to the knot where it began, with at least three different threads, and goes through no knot twice."})
    static void promise29CountTheShortestCircle() {
        Trials.unchanged("knots(3) ties(0-1,1-2,0-2)", "count(5) = 3");
        Trials.unchanged(Nets.RING_14, "count(5) = 14");
        Trials.unchanged(Nets.RING_14 + "removeThread(13)", "count(5) = NONE");
        Trials.unchanged("knots(2) ties(0-1)", "count(5) = NONE");
        Trials.unchanged("knots(11) ties(0-1,1-2,2-3,0-3,4-5,5-6,4-6,7-8,8-9,9-10,7-10)", "count(5) = 3");
    }

    @Sentence({"6 for covers", COVER})
    static void promise29CountCovers() {
        Trials.unchanged("addKnot()", "count(6) = 0");
        Trials.unchanged("knots(2) ties(0-1)", "count(6) = 1");
        Trials.unchanged(Nets.RING_14, "count(6) = 2");
        Trials.unchanged(MOST_COVERS, "count(6) = 54");
    }

    @Sentence({"7 for wrong knots", "A knot is wrong if two of its threads have the same colour."})
    static void promise29CountWrongKnots() {
        Trials.unchanged(Nets.GREATEST + "paints(" + "1,".repeat(20) + "1)", "count(7) = 14");
        Trials.unchanged("knots(3) ties(0-1,1-2) paints(2,2)", "count(7) = 1");
        Trials.unchanged("knots(3) ties(0-1,1-2) paints(2,1)", "count(7) = 0");
        Trials.unchanged(Nets.GREATEST_PAINTED, "count(7) = 0");
    }

    @Sentence("8 for threads without a colour")
    static void promise29CountThreadsWithoutAColour() {
        Trials.unchanged(Nets.GREATEST_PAINTED, "count(8) = 0");
        Trials.unchanged(Nets.GREATEST_PAINTED + "paint(20,3)", "count(8) = 1");
        Trials.unchanged(Nets.GREATEST + "paint(0,0)", "count(8) = 20");
    }

    @Sentence({"9 for the states in the history", "A history of at most 4 states is kept"})
    static void promise29CountTheStatesInTheHistory() {
        Trials.run("count(9) = 0", "addKnot() = 0", "count(9) = 1", "addKnot() = 1", "count(9) = 2", "addKnot() = 2",
            "count(9) = 3", "addKnot() = 3", "count(9) = 4", "addKnot() = 4", "count(9) = 4", "undo() = 3", "count(9) = 3");
    }

    @Sentence({"10 for the length of the text", "There is a text of at most 60 characters, empty at first."})
    static void promise29CountTheLengthOfTheText() {
        Trials.run("count(10) = 0", "type(0) = 1", "count(10) = 1", "write(" + "0-1,".repeat(15) + ")", "count(10) = 60",
            "type(48) = FULL", "count(10) = 60", "readNet() = -160", "count(10) = 60", "clearText() = 60", "count(10) = 0");
    }

    public static void main(String[] args) {
        Trials.runAll(CoversBoundaryTest.class);
    }
}
