/** The boundary cases of promises 11 to 13, and of the terms of colours. */
final class ColoursBoundaryTest {
    private static final String ALL_COLOUR_0 = Nets.GREATEST + "paints(" + "0,".repeat(20) + "0) ";

    // ---- promise 11: paint

    @Sentence({"thread: a thread", "colour: 0 to 2, or 3 for none", "Gives a thread a colour, or none.", "This is an act.",
        "A thread has a colour (0, 1 or 2) or none (at first)."})
    static void promise11PaintTheLeastThreadWithTheLeastColour() {
        Trials.acted("take(0)", "paint(0,0) = 3", "4 knots 0-1:0 0-2 0-3 1-2 1-3 2-3");
    }

    @Sentence({"thread: a thread", "colour: 0 to 2, or 3 for none"})
    static void promise11PaintTheGreatestThreadWithTheGreatestColour() {
        Trials.acted("take(0)", "paint(5,2) = 3", "4 knots 0-1 0-2 0-3 1-2 1-3 2-3:2");
        Trials.acted(Nets.GREATEST, "paint(20,2) = 3", Nets.GREATEST_NET + ":2");
    }

    @Sentence("colour: 0 to 2, or 3 for none")
    static void promise11PaintWithNone() {
        Trials.acted("take(0) paint(5,0)", "paint(5,3) = 0", Nets.K4);
        Trials.acted(Nets.GREATEST + "paint(20,2)", "paint(20,3) = 2", Nets.GREATEST_NET);
    }

    @Sentence("Returns the previous colour (3 for none)")
    static void promise11PaintOverEachColour() {
        Trials.run("take(0)", "paint(0,0) = 3", "paint(0,1) = 0", "paint(0,2) = 1", "paint(0,3) = 2", "paint(0,1) = 3");
    }

    @Sentence("UNKNOWN")
    static void promise11PaintAThreadBeyond() {
        Trials.unchanged(Nets.PAINTED_K4, "paint(-1,0) = UNKNOWN", "paint(6,0) = UNKNOWN", "paint(MIN,0) = UNKNOWN",
            "paint(MAX,0) = UNKNOWN", "paint(32,1) = UNKNOWN");
        Trials.unchanged(Nets.GREATEST, "paint(21,0) = UNKNOWN", "paint(-1,3) = UNKNOWN");
    }

    @Sentence("UNKNOWN")
    static void promise11PaintWithoutThreads() {
        Trials.unchanged("", "paint(0,0) = UNKNOWN", "paint(0,3) = UNKNOWN");
        Trials.unchanged(Nets.ALONE_14, "paint(0,0) = UNKNOWN");
    }

    @Sentence("BAD_VALUE")
    static void promise11PaintWithAColourBeyond() {
        Trials.unchanged(Nets.PAINTED_K4, "paint(0,-1) = BAD_VALUE", "paint(0,4) = BAD_VALUE", "paint(0,MIN) = BAD_VALUE",
            "paint(0,MAX) = BAD_VALUE", "paint(5,4) = BAD_VALUE");
        Trials.unchanged("take(0)", "paint(0,-1) = BAD_VALUE", "paint(0,4) = BAD_VALUE");
    }

    @Sentence({"UNKNOWN; BAD_VALUE; NONE if it is so already.",
        "Where several errors can apply, the order of the @return line is the order of the checks."})
    static void promise11PaintAThreadBeyondWithAColourBeyond() {
        Trials.unchanged(Nets.PAINTED_K4, "paint(6,4) = UNKNOWN", "paint(-1,-1) = UNKNOWN", "paint(MAX,MIN) = UNKNOWN");
    }

    @Sentence({"NONE if it is so already.", "A call that returns an error or NONE changes nothing."})
    static void promise11PaintAsItIs() {
        Trials.unchanged(Nets.PAINTED_K4, "paint(0,0) = NONE", "paint(1,1) = NONE", "paint(2,2) = NONE", "paint(5,0) = NONE");
        Trials.unchanged(Nets.GREATEST_PAINTED, "paint(20,2) = NONE");
    }

    @Sentence({"NONE if it is so already.", "A thread has a colour (0, 1 or 2) or none (at first)."})
    static void promise11PaintWithNoneWhereNoneIs() {
        Trials.unchanged(Nets.GREATEST, "paint(0,3) = NONE", "paint(20,3) = NONE");
    }

    @Sentence("Gives a thread a colour, or none.")
    static void promise11PaintMakesAKnotWrong() {
        Trials.acted("take(0) paint(0,1)", "paint(1,1) = 3", "4 knots 0-1:1 0-2:1 0-3 1-2 1-3 2-3");
    }

    // ---- promise 12: exchange

    @Sentence({"thread: a thread", "colour: 0 to 2: the other colour", "Exchanges the chain of a thread.", "This is an act.",
        "Returns how many threads are in the chain", "Exchanging it gives each of its threads the other one of both colours."})
    static void promise12ExchangeTheLeastThreadWithTheGreatestColour() {
        Trials.acted(Nets.PAINTED_K4, "exchange(0,2) = 4", "4 knots 0-1:2 0-2:1 0-3:0 1-2:0 1-3:1 2-3:2");
    }

    @Sentence({"thread: a thread", "colour: 0 to 2: the other colour"})
    static void promise12ExchangeTheGreatestThreadWithTheLeastColour() {
        Trials.acted(Nets.PAINTED_K4 + "exchange(0,2)", "exchange(5,0) = 4", "4 knots 0-1:0 0-2:1 0-3:2 1-2:2 1-3:1 2-3:0");
        Trials.acted(Nets.GREATEST_PAINTED + "paint(2,3)", "exchange(20,0) = 13", Nets.GREATEST_PAINTED_NET
            .replace(" 2-3:0", " 2-3").replace(":0", ":x").replace(":2", ":0").replace(":x", ":2"));
    }

    @Sentence("(itself too)")
    static void promise12ExchangeAThreadAlone() {
        Trials.acted("knots(2) ties(0-1) paint(0,0)", "exchange(0,1) = 1", "2 knots 0-1:1");
        Trials.acted("take(0) paints(0,1,2)", "exchange(1,0) = 2", "4 knots 0-1:1 0-2:0 0-3:2 1-2 1-3 2-3");
        Trials.acted("knots(4) ties(0-1,2-3) paints(0,1)", "exchange(0,1) = 1", "4 knots 0-1:1 2-3:1");
    }

    @Sentence("Returns how many threads are in the chain")
    static void promise12ExchangeAllThreads() {
        Trials.acted(ALL_COLOUR_0, "exchange(0,1) = 21", Nets.GREATEST_NET.replaceAll("(-\\d+)", "$1:1"));
        Trials.acted(ALL_COLOUR_0, "exchange(20,2) = 21", Nets.GREATEST_NET.replaceAll("(-\\d+)", "$1:2"));
    }

    @Sentence("the set of threads of these two colours that can be reached from it along threads of these two colours (itself too).")
    static void promise12ExchangeWhereTwoThreadsOfAKnotHaveOneColour() {
        Trials.acted("knots(4) ties(0-1,0-2,0-3) paints(0,0,1)", "exchange(0,2) = 2", "4 knots 0-1:2 0-2:2 0-3:1");
        Trials.acted("knots(4) ties(0-1,0-2,0-3) paints(0,0,1)", "exchange(2,0) = 3", "4 knots 0-1:1 0-2:1 0-3:0");
    }

    @Sentence("the set of threads of these two colours that can be reached from it along threads of these two colours")
    static void promise12ExchangeStopsAtTheThirdColourAndAtNone() {
        Trials.acted("knots(6) ties(0-1,1-2,2-3,3-4,4-5) paints(0,1,2,0,1)", "exchange(1,0) = 2",
            "6 knots 0-1:1 1-2:0 2-3:2 3-4:0 4-5:1");
        Trials.acted("knots(6) ties(0-1,1-2,2-3,3-4,4-5) paints(0,1,-,0,1)", "exchange(3,1) = 2",
            "6 knots 0-1:0 1-2:1 2-3 3-4:1 4-5:0");
    }

    @Sentence("UNKNOWN")
    static void promise12ExchangeAThreadBeyond() {
        Trials.unchanged(Nets.PAINTED_K4, "exchange(-1,0) = UNKNOWN", "exchange(6,0) = UNKNOWN", "exchange(MIN,0) = UNKNOWN",
            "exchange(MAX,0) = UNKNOWN", "exchange(32,1) = UNKNOWN");
        Trials.unchanged(Nets.GREATEST_PAINTED, "exchange(21,0) = UNKNOWN");
        Trials.unchanged("", "exchange(0,0) = UNKNOWN");
    }

    @Sentence("UNKNOWN; BAD_VALUE (also if it is the colour of the thread)")
    static void promise12ExchangeAThreadBeyondWithAColourBeyond() {
        Trials.unchanged(Nets.PAINTED_K4, "exchange(6,3) = UNKNOWN", "exchange(-1,-1) = UNKNOWN");
        Trials.unchanged("", "exchange(0,3) = UNKNOWN");
    }

    @Sentence("BAD_VALUE (also if it is the colour of the thread)")
    static void promise12ExchangeWithAColourBeyond() {
        Trials.unchanged(Nets.PAINTED_K4, "exchange(0,-1) = BAD_VALUE", "exchange(0,3) = BAD_VALUE", "exchange(0,4) = BAD_VALUE",
            "exchange(0,MIN) = BAD_VALUE", "exchange(0,MAX) = BAD_VALUE");
    }

    @Sentence("(also if it is the colour of the thread)")
    static void promise12ExchangeWithItsOwnColour() {
        Trials.unchanged(Nets.PAINTED_K4, "exchange(0,0) = BAD_VALUE", "exchange(1,1) = BAD_VALUE", "exchange(2,2) = BAD_VALUE",
            "exchange(5,0) = BAD_VALUE");
    }

    @Sentence("BAD_VALUE (also if it is the colour of the thread); NOT_POSSIBLE if the thread has no colour.")
    static void promise12ExchangeAThreadWithoutColourWithAColourBeyond() {
        Trials.unchanged("take(0)", "exchange(0,3) = BAD_VALUE", "exchange(0,-1) = BAD_VALUE", "exchange(5,MAX) = BAD_VALUE");
    }

    @Sentence("NOT_POSSIBLE if the thread has no colour.")
    static void promise12ExchangeAThreadWithoutColour() {
        Trials.unchanged("take(0) paints(0,1,2)", "exchange(3,0) = NOT_POSSIBLE", "exchange(3,2) = NOT_POSSIBLE",
            "exchange(5,1) = NOT_POSSIBLE");
        Trials.unchanged(Nets.GREATEST, "exchange(0,0) = NOT_POSSIBLE", "exchange(20,2) = NOT_POSSIBLE");
    }

    // ---- promise 13: complete

    @Sentence({"Gives all threads without a colour colours, by the first of all good paintings in which the others have the "
        + "colours that they have.", "Returns how many threads get a colour", "This is an act."})
    static void promise13CompleteWithoutAnyColour() {
        Trials.acted("take(0)", "complete() = 6", "4 knots 0-1:0 0-2:1 0-3:2 1-2:2 1-3:1 2-3:0");
        Trials.acted(Nets.GREATEST, "complete() = 21", Nets.GREATEST_PAINTED_NET);
    }

    @Sentence("Returns how many threads get a colour")
    static void promise13CompleteTheLastThread() {
        Trials.acted(Nets.PAINTED_K4 + "paint(5,3)", "complete() = 1", "4 knots 0-1:0 0-2:1 0-3:2 1-2:2 1-3:1 2-3:0");
        Trials.acted(Nets.GREATEST_PAINTED + "paint(0,3)", "complete() = 1", Nets.GREATEST_PAINTED_NET);
    }

    @Sentence("by the first of all good paintings in which the others have the colours that they have.")
    static void promise13CompleteWhereTheGreatestThreadBindsTheLeast() {
        Trials.acted("take(0) paint(5,2)", "complete() = 5", "4 knots 0-1:2 0-2:0 0-3:1 1-2:1 1-3:0 2-3:2");
        Trials.acted("knots(4) ties(0-1,1-2,2-3) paint(2,0)", "complete() = 2", "4 knots 0-1:0 1-2:1 2-3:0");
        Trials.acted("knots(4) ties(0-1,1-2,1-3) paint(2,0)", "complete() = 2", "4 knots 0-1:1 1-2:2 1-3:0");
    }

    @Sentence("NOT_POSSIBLE if there is no such painting")
    static void promise13CompleteANetWithoutAGoodPainting() {
        Trials.unchanged("take(2)", "complete() = NOT_POSSIBLE");
        Trials.unchanged("take(4) paint(7,1)", "complete() = NOT_POSSIBLE");
        Trials.unchanged("take(2) grow(0) grow(0)", "complete() = NOT_POSSIBLE");
        Trials.unchanged(Nets.ONE_THREAD_TOO_MANY, "complete() = NOT_POSSIBLE");
    }

    @Sentence("NOT_POSSIBLE if there is no such painting")
    static void promise13CompleteWhereTheColoursForbidIt() {
        Trials.unchanged("take(0) paints(0,-,-,-,-,1)", "complete() = NOT_POSSIBLE");
        Trials.unchanged("knots(6) ties(0-1,1-2,1-3,3-4,3-5) paints(0,1,-,2)", "complete() = NOT_POSSIBLE");
    }

    @Sentence("NOT_POSSIBLE if there is no such painting")
    static void promise13CompleteWithAWrongKnot() {
        Trials.unchanged("knots(5) ties(0-1,1-2,3-4) paints(1,1)", "complete() = NOT_POSSIBLE");
    }

    @Sentence("NOT_POSSIBLE if there is no such painting; NONE if all threads have colours, and no knot is wrong.")
    static void promise13CompleteWithAllColoursAndAWrongKnot() {
        Trials.unchanged("knots(3) ties(0-1,1-2) paints(1,1)", "complete() = NOT_POSSIBLE");
        Trials.unchanged(ALL_COLOUR_0, "complete() = NOT_POSSIBLE");
        Trials.unchanged(Nets.GREATEST_PAINTED + "paint(20,1)", "complete() = NOT_POSSIBLE");
    }

    @Sentence("NONE if all threads have colours, and no knot is wrong.")
    static void promise13CompleteWithAllColours() {
        Trials.unchanged(Nets.PAINTED_K4, "complete() = NONE", "complete() = NONE");
        Trials.unchanged(Nets.GREATEST_PAINTED, "complete() = NONE");
    }

    @Sentence("NONE if all threads have colours, and no knot is wrong.")
    static void promise13CompleteWithoutThreads() {
        Trials.unchanged("", "complete() = NONE");
        Trials.unchanged(Nets.ALONE_14, "complete() = NONE");
    }

    public static void main(String[] args) {
        Trials.runAll(ColoursBoundaryTest.class);
    }
}
