/** Nets that several tests begin with: calls that make them, and how they are told. */
final class Nets {
    static final String K4 = "4 knots 0-1 0-2 0-3 1-2 1-3 2-3";
    static final String K33 = "6 knots 0-3 0-4 0-5 1-3 1-4 1-5 2-3 2-4 2-5";
    static final String PETERSEN = "10 knots 0-1 1-2 2-3 3-4 0-4 0-5 1-6 2-7 3-8 4-9 5-7 7-9 6-9 6-8 5-8";
    static final String PRISM = "6 knots 0-1 1-2 0-2 3-4 4-5 3-5 0-3 1-4 2-5";
    static final String BRIDGED = "10 knots 0-1 0-2 1-3 2-3 1-4 2-4 3-4 0-5 5-6 5-7 6-8 7-8 6-9 7-9 8-9";

    /** Four knots with all six threads, well painted. */
    static final String PAINTED_K4 = "take(0) paints(0,1,2,2,1,0) ";

    private static final String RING =
        "0-1,1-2,2-3,3-4,4-5,5-6,6-7,7-8,8-9,9-10,10-11,11-12,12-13,0-13";
    private static final String SPOKES = "0-5,2-7,4-9,6-11,8-13,1-10,3-12";

    /** 14 knots and 14 threads: one circle. */
    static final String RING_14 = "knots(14) ties(" + RING + ") ";

    /** 14 knots and 21 threads, the most of both; the shortest circle has six threads. */
    static final String GREATEST = "knots(14) ties(" + RING + "," + SPOKES + ") ";
    static final String GREATEST_NET = told(RING + "," + SPOKES);

    /** One painting of it in which no knot is wrong. */
    static final String GREATEST_PAINTED =
        GREATEST + "paints(0,1,0,1,0,1,0,1,0,1,0,1,0,1,2,2,2,2,2,2,2) ";
    static final String GREATEST_PAINTED_NET = told("0-1:0,1-2:1,2-3:0,3-4:1,4-5:0,5-6:1,6-7:0,7-8:1,8-9:0,9-10:1,"
        + "10-11:0,11-12:1,12-13:0,0-13:1,0-5:2,2-7:2,4-9:2,6-11:2,8-13:2,1-10:2,3-12:2");

    /** Five knots and seven threads: without any one of its threads it has a good painting, with all of them none. */
    static final String ONE_THREAD_TOO_MANY = "knots(5) ties(0-1,0-2,1-3,2-3,1-4,2-4,3-4) ";

    /** 14 knots without threads. */
    static final String ALONE_14 = "knots(14) ";

    private Nets() {
    }

    private static String told(String threads) {
        return "14 knots " + threads.replace(',', ' ');
    }
}
