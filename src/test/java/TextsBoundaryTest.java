/** The boundary cases of promises 7, 14 and 15: the text, and nets that are read from it. */
final class TextsBoundaryTest {
    private static final String FAULT = "The fault of the text is the index, from 0, of the first character that is not allowed "
        + "at its place";
    private static final String FAULT_13 = "(a digit by which a knot would be more than 13, too)";
    private static final String FAULT_END = "or the length of the text if it ends too early";
    private static final String FAULT_ANSWER = "-100 minus the fault of the text if it has one (which is an error)";
    private static final String ROW = "A row of threads is one or more threads with \",\" between two.";
    private static final String THREAD = "A thread is a knot, \"-\", and a knot";
    private static final String DIGITS = "a knot has one or two digits";
    private static final String NO_ZERO = "without a zero in front unless it is the single digit 0";

    /** 15 threads in 59 characters, the most that a text can tell: Petersen's net. */
    private static final String MOST_THREADS = "0-1,1-2,2-3,3-4,0-4,0-5,1-6,2-7,3-8,4-9,5-7,7-9,6-9,6-8,5-8";
    /** A net in just 60 characters. */
    private static final String FULL_TEXT = "0-10,1-2,2-13,3-4,4-5,5-6,6-7,7-8,8-9,9-10,10-11,11-12,12-13";

    private static void fault(String text, int at) {
        Trials.unchanged("take(0) paint(0,1) write(" + text + ")", "readNet() = " + (-100 - at), "count(10) = " + text.length(),
            "readNet() = " + (-100 - at));
    }

    private static void read(String text, int knots) {
        Trials.acted("take(0) paint(0,1) write(" + text + ")", "readNet() = " + knots, knots + " knots " + text.replace(',', ' '));
    }

    // ---- promise 7: readNet, the fault

    @Sentence({FAULT_ANSWER, FAULT_END, "(the empty text does)"})
    static void promise07ReadTheEmptyText() {
        fault("", 0);
        Trials.unchanged("clearText()", "readNet() = -100", "count(10) = 0");
    }

    @Sentence({"(the empty text does)"})
    static void promise07ReadATextThatWasEmptied() {
        Trials.unchanged("write(0-1) clearText()", "readNet() = -100", "count(10) = 0");
    }

    @Sentence(FAULT_END)
    static void promise07ReadATextThatEndsBehindTheFirstKnot() {
        fault("0", 1);
        fault("1", 1);
        fault("13", 2);
    }

    @Sentence({FAULT_END, THREAD})
    static void promise07ReadATextThatEndsBehindADash() {
        fault("0-", 2);
        fault("13-", 3);
        fault("0-1,2-", 6);
    }

    @Sentence({FAULT_END, ROW})
    static void promise07ReadATextThatEndsBehindAComma() {
        fault("0-1,", 4);
        fault("12-13,", 6);
    }

    @Sentence({FAULT_END, ROW})
    static void promise07ReadATextThatEndsInAThread() {
        fault("0-1,2", 5);
        fault("0-1,12", 6);
    }

    @Sentence({FAULT_END, FAULT_ANSWER})
    static void promise07ReadAFullTextThatEndsTooEarly() {
        fault("0-1,".repeat(15), 60);
        fault("0-1,".repeat(13) + "0-13,13-", 60);
        fault("0-1,".repeat(14) + "10-", 59);
    }

    @Sentence({FAULT, ROW})
    static void promise07ReadATextWhoseFirstCharacterIsNotAllowed() {
        fault("-", 0);
        fault(",", 0);
        fault(",0-1", 0);
        fault("-1-2", 0);
        fault(" 0-1", 0);
        fault("x", 0);
    }

    @Sentence({FAULT, DIGITS})
    static void promise07ReadCharactersNextToTheDigits() {
        fault("/-1", 0);
        fault(":-1", 0);
        fault("0-/", 2);
        fault("0-:", 2);
        fault("1/-0", 1);
        fault("1:-0", 1);
        fault("0-1/", 3);
        fault("0-1:", 3);
    }

    @Sentence({FAULT, ROW, THREAD})
    static void promise07ReadCharactersNextToTheCommaAndTheDash() {
        fault("0+1", 1);
        fault("0.1", 1);
        fault("0-1+2-3", 3);
        fault("0-1.2-3", 3);
        fault("0-1;2-3", 3);
        fault("0_1", 1);
    }

    @Sentence(FAULT)
    static void promise07ReadTheLeastAndTheGreatestCharacter() {
        Trials.unchanged("clearText() type(0)", "readNet() = -100");
        Trials.unchanged("clearText() type(65535)", "readNet() = -100");
        Trials.unchanged("write(0-1) type(0)", "readNet() = -103");
        Trials.unchanged("write(0-1) type(65535)", "readNet() = -103");
    }

    @Sentence({FAULT, DIGITS})
    static void promise07ReadDigitsOfOtherScripts() {
        fault("\u0660-1", 0);
        fault("0-\uff11", 2);
        fault("0\u20101", 1);
    }

    @Sentence(FAULT)
    static void promise07ReadALetterThatIsADigitInTheLowEightBits() {
        Trials.unchanged("write() type(" + (256 + '0') + ") type(45) type(49)", "readNet() = -100");
        Trials.unchanged("write(0) type(" + (256 + '-') + ") type(49)", "readNet() = -101");
        Trials.unchanged("write(0-1) type(" + (256 + ',') + ") type(49)", "readNet() = -103");
    }

    @Sentence({FAULT, THREAD})
    static void promise07ReadACommaOrADashAtAWrongPlace() {
        fault("0,1-2", 1);
        fault("0--1", 2);
        fault("0-,1-2", 2);
        fault("0-1-2", 3);
        fault("0-1,,2-3", 4);
        fault("0-1,-2", 4);
        fault("0-1,2,3-4", 5);
    }

    @Sentence(FAULT)
    static void promise07ReadATextWithTwoFaults() {
        fault("x-y", 0);
        fault("0-14,x", 3);
        fault("0-1,00-2,", 5);
    }

    @Sentence(FAULT)
    static void promise07ReadAFullTextWhoseLastCharacterIsNotAllowed() {
        fault(FULL_TEXT.substring(0, 59) + "-", 59);
        fault(MOST_THREADS + "x", 59);
        fault(MOST_THREADS + "0", 59);
    }

    @Sentence({FAULT_13, "and is at most 13."})
    static void promise07ReadAFirstKnotOfMoreThan13() {
        fault("14-0", 1);
        fault("19-0", 1);
        fault("20-0", 1);
        fault("23-0", 1);
        fault("99-0", 1);
    }

    @Sentence({FAULT_13, "and is at most 13."})
    static void promise07ReadASecondKnotOfMoreThan13() {
        fault("0-14", 3);
        fault("0-19", 3);
        fault("0-20", 3);
        fault("0-91", 3);
        fault("0-1,2-14", 7);
    }

    @Sentence({DIGITS, FAULT_13})
    static void promise07ReadAKnotOfThreeDigits() {
        fault("130-1", 2);
        fault("100-1", 2);
        fault("0-130", 4);
        fault("0-101", 4);
    }

    @Sentence({FAULT, NO_ZERO})
    static void promise07ReadAZeroInFront() {
        fault("00-1", 1);
        fault("01-2", 1);
        fault("0-00", 3);
        fault("0-01", 3);
        fault("0-013", 3);
    }

    @Sentence({"-100 minus the fault of the text if it has one (which is an error); BAD_VALUE if both knots of any thread are the "
        + "same; NOT_POSSIBLE if any two threads have the same knots, or a knot has more than three threads.",
        "Where several errors can apply, the order of the @return line is the order of the checks."})
    static void promise07ReadAFaultBehindOtherErrors() {
        fault("0-0,", 4);
        fault("0-1,1-0,x", 8);
        fault("0-1,0-2,0-3,0-4,2-2,14", 21);
    }

    // ---- promise 7: readNet, what is read

    @Sentence({"Returns how many knots it has", ROW})
    static void promise07ReadTheShortestText() {
        read("0-1", 2);
    }

    @Sentence({"its threads are told in their order", "There is a text of at most 60 characters"})
    static void promise07ReadAFullText() {
        read(FULL_TEXT, 14);
        Trials.due("the length of a full text", FULL_TEXT.length(), 60);
    }

    @Sentence({ROW, "Returns how many knots it has"})
    static void promise07ReadTheMostThreads() {
        read(MOST_THREADS, 10);
    }

    @Sentence({DIGITS, "and is at most 13."})
    static void promise07ReadTheKnotsFrom9To13() {
        read("9-10,10-11,11-12,12-13", 14);
        read("0-13", 14);
        Trials.acted("write(13-0)", "readNet() = 14", "14 knots 0-13");
    }

    @Sentence(NO_ZERO)
    static void promise07ReadTheSingleDigit0() {
        read("0-1,0-2,0-10", 11);
        Trials.acted("write(1-0,10-0)", "readNet() = 11", "11 knots 0-1 0-10");
    }

    @Sentence("its knots are those from 0 to the greatest one in it")
    static void promise07ReadATextWithoutTheLesserKnots() {
        read("12-13", 14);
        read("1-2", 3);
        Trials.unchanged("write(12-13) readNet()", "knot(0,0) = 0", "knot(11,0) = 0", "knot(13,0) = 1", "count(3) = 13");
    }

    @Sentence("A thread is told by its knots, the lesser number first.")
    static void promise07ReadThreadsWithTheGreaterKnotFirst() {
        Trials.acted("write(3-1,2-0,3-0)", "readNet() = 4", "4 knots 1-3 0-2 0-3");
        Trials.unchanged("write(13-9) readNet()", "thread(0,0) = 9", "thread(0,1) = 13");
    }

    @Sentence({"without colours.", "This is an act."})
    static void promise07ReadWhereAllThreadsHadColours() {
        Trials.acted(Nets.GREATEST_PAINTED + "write(" + MOST_THREADS + ")", "readNet() = 10", Nets.PETERSEN);
        Trials.acted("write(0-1,1-2) readNet() paints(0,1)", "readNet() = 3", "3 knots 0-1 1-2");
    }

    @Sentence("Makes the net that of the text, which stays")
    static void promise07ReadTwice() {
        Trials.run("write(0-1,1-2)", "readNet() = 3", "count(10) = 7", "removeKnot(0) = 1", "readNet() = 3", "count(1) = 2",
            "type(44) = 8", "readNet() = -108", "count(1) = 2");
    }

    @Sentence("Makes the net that of the text")
    static void promise07ReadInPlaceOfTheGreatestNet() {
        Trials.acted(Nets.GREATEST + "write(0-1)", "readNet() = 2", "2 knots 0-1");
        Trials.acted(Nets.ALONE_14 + "write(1-2)", "readNet() = 3", "3 knots 1-2");
    }

    @Sentence("BAD_VALUE if both knots of any thread are the same")
    static void promise07ReadAThreadFromAKnotToItself() {
        Trials.unchanged("take(0) write(0-0)", "readNet() = BAD_VALUE");
        Trials.unchanged("take(0) write(13-13)", "readNet() = BAD_VALUE");
        Trials.unchanged("take(0) write(2-2,0-1,1-2)", "readNet() = BAD_VALUE");
        Trials.unchanged("take(0) write(0-1,2-2,1-2)", "readNet() = BAD_VALUE");
        Trials.unchanged("take(0) write(0-1,1-2,2-2)", "readNet() = BAD_VALUE");
    }

    @Sentence("BAD_VALUE if both knots of any thread are the same; NOT_POSSIBLE if any two threads have the same knots, or a knot "
        + "has more than three threads.")
    static void promise07ReadAThreadFromAKnotToItselfBehindOtherErrors() {
        Trials.unchanged("take(0) write(0-1,0-1,2-2)", "readNet() = BAD_VALUE");
        Trials.unchanged("take(0) write(0-1,0-2,0-3,0-4,1-1)", "readNet() = BAD_VALUE");
        Trials.unchanged("take(0) write(0-0,0-0)", "readNet() = BAD_VALUE");
        Trials.unchanged("take(0) write(0-1,0-2,0-3,0-0)", "readNet() = BAD_VALUE");
    }

    @Sentence("NOT_POSSIBLE if any two threads have the same knots")
    static void promise07ReadTwoThreadsWithTheSameKnots() {
        Trials.unchanged("take(0) write(0-1,0-1)", "readNet() = NOT_POSSIBLE");
        Trials.unchanged("take(0) write(0-1,1-0)", "readNet() = NOT_POSSIBLE");
        Trials.unchanged("take(0) write(0-1,1-2,2-3,3-4,1-0)", "readNet() = NOT_POSSIBLE");
        Trials.unchanged("take(0) write(12-13,13-12)", "readNet() = NOT_POSSIBLE");
    }

    @Sentence("or a knot has more than three threads.")
    static void promise07ReadAKnotWithFourThreads() {
        Trials.unchanged("take(0) write(0-1,0-2,0-3,0-4)", "readNet() = NOT_POSSIBLE");
        Trials.unchanged("take(0) write(1-13,2-13,3-13,4-13)", "readNet() = NOT_POSSIBLE");
        Trials.unchanged("take(0) write(0-1,2-0,0-3,4-0)", "readNet() = NOT_POSSIBLE");
    }

    @Sentence("or a knot has more than three threads.")
    static void promise07ReadKnotsWithThreeThreads() {
        read("0-1,0-2,0-3,1-2,1-3,2-3", 4);
        read("1-13,2-13,3-13", 14);
    }

    @Sentence("NOT_POSSIBLE if any two threads have the same knots")
    static void promise07ReadBehindARefusalWhatIsTyped() {
        Trials.run("take(0) write(0-1,0-1)", "readNet() = NOT_POSSIBLE", "count(0) = 4", "count(9) = 1", "write(0-1,0-2)",
            "readNet() = 3", "count(1) = 2", "count(9) = 2");
    }

    @Sentence({"BAD_VALUE if both knots of any thread are the same", "Makes the net that of the text"})
    static void promise07ReadAShorterTextBehindARefusedOne() {
        Trials.run("write(0-1,2-2)", "readNet() = BAD_VALUE", "write(0-1)", "readNet() = 2", "count(1) = 1", "count(9) = 1");
        Trials.run("write(0-1,1-2,0-1)", "readNet() = NOT_POSSIBLE", "write(0-1,1-2)", "readNet() = 3", "count(1) = 2");
    }

    // ---- promise 14: type

    @Sentence({"Types a character behind the text.", "Returns the length of the text then"})
    static void promise14TypeTheFirstCharacter() {
        Trials.run("type(48) = 1", "count(10) = 1", "readNet() = -101");
    }

    @Sentence({"There is a text of at most 60 characters", "Returns the length of the text then"})
    static void promise14TypeTheLastCharacter() {
        Trials.run("write(" + MOST_THREADS + ")", "type(120) = 60", "count(10) = 60", "readNet() = -159");
    }

    @Sentence("FULL if it has 60 characters.")
    static void promise14TypeACharacterTooMany() {
        Trials.unchanged("take(0) write(" + FULL_TEXT + ")", "type(48) = FULL", "type(44) = FULL", "type(65535) = FULL",
            "count(10) = 60");
        Trials.run("write(" + FULL_TEXT + ")", "type(48) = FULL", "readNet() = 14", "clearText() = 60");
    }

    @Sentence("FULL if it has 60 characters.")
    static void promise14TypeIntoATextThatWasFull() {
        Trials.run("write(" + FULL_TEXT + ")", "type(48) = FULL", "clearText() = 60", "type(48) = 1", "type(45) = 2",
            "type(49) = 3", "readNet() = 2");
    }

    @Sentence("character: any character")
    static void promise14TypeTheLeastAndTheGreatestCharacter() {
        Trials.run("type(0) = 1", "type(65535) = 2", "type(32) = 3", "type(10) = 4", "type(55296) = 5", "type(255) = 6",
            "type(256) = 7", "count(10) = 7", "clearText() = 7");
    }

    @Sentence("Types a character behind the text.")
    static void promise14TypeBehindTheText() {
        Trials.run("write(0-1)", "type(50) = 4", "readNet() = 13", "type(44) = 5", "readNet() = -105");
    }

    @Sentence({"A state is everything but the text, the history and the snapshot.",
        "Each call of a method that is described as an act, and returns no error and not NONE, records the state that was before "
        + "it."})
    static void promise14TypeIsNoAct() {
        Trials.run("type(48) = 1", "count(9) = 0", "undo() = NONE", "addKnot() = 0", "type(45) = 2", "count(9) = 1", "undo() = 0",
            "count(10) = 2", "type(49) = 3", "readNet() = 2");
    }

    @Sentence("A state is everything but the text, the history and the snapshot.")
    static void promise14TypeIsNotUndoneNorRestored() {
        Trials.run("keep() = 0", "write(0-1)", "restore() = 0", "count(10) = 3", "undo() = 0", "count(10) = 3", "readNet() = 2");
    }

    // ---- promise 15: clearText

    @Sentence("Returns the length that it had.")
    static void promise15ClearTheEmptyText() {
        Trials.run("clearText() = 0", "clearText() = 0", "count(10) = 0");
    }

    @Sentence({"Empties the text.", "Returns the length that it had."})
    static void promise15ClearAFullText() {
        Trials.run("write(" + FULL_TEXT + ")", "clearText() = 60", "count(10) = 0", "clearText() = 0", "readNet() = -100");
    }

    @Sentence("Empties the text.")
    static void promise15ClearATextBeforeAShorterOne() {
        Trials.run("write(0-1,1-2)", "clearText() = 7", "type(48) = 1", "readNet() = -101", "type(45) = 2", "readNet() = -102");
    }

    @Sentence("A state is everything but the text, the history and the snapshot.")
    static void promise15ClearIsNoAct() {
        Trials.run("take(0) write(0-1)", "clearText() = 3", "count(9) = 1", "count(0) = 4", "undo() = 0", "count(10) = 0",
            "clearText() = 0", "count(9) = 0");
    }

    public static void main(String[] args) {
        Trials.runAll(TextsBoundaryTest.class);
    }
}
