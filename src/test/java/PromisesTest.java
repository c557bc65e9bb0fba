/** For each promise of the document: ordinary calls, the edges that it names, and wrong calls. */
public final class PromisesTest {
    private static int wrong = 0;
    private static int promise = 0;

    private static void due(String call, int got, int want) {
        if (got != want) {
            wrong++;
            System.out.println("promise " + promise + ": " + call + " answered " + got + ", due is " + want);
        }
    }

    private static KnotStripes taken(int which) {
        KnotStripes x = new KnotStripes();
        x.take(which);
        return x;
    }

    private static KnotStripes read(String text) {
        KnotStripes x = new KnotStripes();
        typed(x, text);
        x.readNet();
        return x;
    }

    private static void typed(KnotStripes x, String text) {
        x.clearText();
        for (int i = 0; i < text.length(); i++) {
            x.type(text.charAt(i));
        }
    }

    private static void painted(KnotStripes x, int... colours) {
        for (int i = 0; i < colours.length; i++) {
            x.paint(i, colours[i]);
        }
    }

    /** The net as its lesser and greater knots and colours, thread by thread: "0-1:3 ..". */
    private static String told(KnotStripes x) {
        StringBuilder b = new StringBuilder();
        b.append(x.count(0)).append(" knots");
        for (int i = 0; i < x.count(1); i++) {
            b.append(' ').append(x.thread(i, 0)).append('-').append(x.thread(i, 1));
            int colour = x.thread(i, 2);
            if (colour != KnotStripes.NONE) {
                b.append(':').append(colour);
            }
        }
        return b.toString();
    }

    private static void dueNet(String when, KnotStripes x, String want) {
        String got = told(x);
        if (!got.equals(want)) {
            wrong++;
            System.out.println("promise " + promise + ": " + when + " the net is [" + got + "], due is [" + want + "]");
        }
    }

    private static void constants() {
        promise = 0;
        due("UNKNOWN", KnotStripes.UNKNOWN, -1);
        due("BAD_VALUE", KnotStripes.BAD_VALUE, -2);
        due("FULL", KnotStripes.FULL, -3);
        due("NOT_POSSIBLE", KnotStripes.NOT_POSSIBLE, -4);
        due("NONE", KnotStripes.NONE, -5);
    }

    private static void newObject() {
        promise = 1;
        KnotStripes x = new KnotStripes();
        int[] counts = {0, 0, 0, 0, 0, -5, 1, 0, 0, 0, 0};
        for (int what = 0; what < counts.length; what++) {
            due("count(" + what + ")", x.count(what), counts[what]);
        }
        due("undo()", x.undo(), -5);
        due("restore()", x.restore(), -5);
    }

    private static void take() {
        promise = 2;
        String[] nets = {
            "4 knots 0-1 0-2 0-3 1-2 1-3 2-3",
            "6 knots 0-3 0-4 0-5 1-3 1-4 1-5 2-3 2-4 2-5",
            "10 knots 0-1 1-2 2-3 3-4 0-4 0-5 1-6 2-7 3-8 4-9 5-7 7-9 6-9 6-8 5-8",
            "6 knots 0-1 1-2 0-2 3-4 4-5 3-5 0-3 1-4 2-5",
            "10 knots 0-1 0-2 1-3 2-3 1-4 2-4 3-4 0-5 5-6 5-7 6-8 7-8 6-9 7-9 8-9"};
        int[] knots = {4, 6, 10, 6, 10};
        KnotStripes x = new KnotStripes();
        for (int which = 0; which < 5; which++) {
            due("take(" + which + ")", x.take(which), knots[which]);
            dueNet("after take", x, nets[which]);
        }
        x.take(0);
        x.paint(0, 1);
        due("take(0) again", x.take(0), 4);
        dueNet("after taking a painted one again", x, nets[0]);
        due("take(-1)", x.take(-1), -2);
        due("take(5)", x.take(5), -2);
        dueNet("after wrong takes", x, nets[0]);
        x.undo();
        due("thread(0, 2) after undo", x.thread(0, 2), 1);
    }

    private static void addKnot() {
        promise = 3;
        KnotStripes x = new KnotStripes();
        for (int i = 0; i < 14; i++) {
            due("addKnot()", x.addKnot(), i);
        }
        due("knot(13, 0)", x.knot(13, 0), 0);
        due("addKnot()", x.addKnot(), -3);
        due("count(0)", x.count(0), 14);
        due("undo()", x.undo(), 3);
        due("count(0)", x.count(0), 13);
    }

    private static void removeKnot() {
        promise = 4;
        KnotStripes x = taken(3);
        painted(x, 0, 1, 2, 0, 1, 2);
        due("removeKnot(6)", x.removeKnot(6), -1);
        due("removeKnot(-1)", x.removeKnot(-1), -1);
        due("removeKnot(1)", x.removeKnot(1), 6);
        dueNet("after removeKnot(1)", x, "5 knots 0-1:2 2-3:0 3-4:1 2-4:2 0-2 1-4");
        due("removeKnot(4)", x.removeKnot(4), 3);
        dueNet("after removeKnot(4)", x, "4 knots 0-1:2 2-3:0 0-2");
        due("removeKnot(0)", x.removeKnot(0), 1);
        dueNet("after removeKnot(0)", x, "3 knots 1-2:0");
        due("undo()", x.undo(), 3);
        dueNet("after undo", x, "4 knots 0-1:2 2-3:0 0-2");
    }

    private static void addThread() {
        promise = 5;
        KnotStripes x = new KnotStripes();
        for (int i = 0; i < 5; i++) {
            x.addKnot();
        }
        due("addThread(3, 1)", x.addThread(3, 1), 0);
        dueNet("after addThread(3, 1)", x, "5 knots 1-3");
        due("addThread(1, 3)", x.addThread(1, 3), -4);
        due("addThread(3, 1)", x.addThread(3, 1), -4);
        due("addThread(5, 0)", x.addThread(5, 0), -1);
        due("addThread(0, 5)", x.addThread(0, 5), -1);
        due("addThread(-1, -1)", x.addThread(-1, -1), -1);
        due("addThread(5, 5)", x.addThread(5, 5), -1);
        due("addThread(2, 2)", x.addThread(2, 2), -2);
        due("addThread(3, 0)", x.addThread(3, 0), 1);
        due("addThread(3, 2)", x.addThread(3, 2), 2);
        due("addThread(3, 4)", x.addThread(3, 4), -4);
        due("addThread(4, 3)", x.addThread(4, 3), -4);
        due("addThread(3, 3)", x.addThread(3, 3), -2);
        due("addThread(0, 4)", x.addThread(0, 4), 3);
        due("count(9)", x.count(9), 4);
        due("undo()", x.undo(), 3);
        dueNet("after undo", x, "5 knots 1-3 0-3 2-3");
    }

    private static void removeThread() {
        promise = 6;
        KnotStripes x = taken(0);
        painted(x, 0, 1, 2, 2, 1, 0);
        due("removeThread(6)", x.removeThread(6), -1);
        due("removeThread(-1)", x.removeThread(-1), -1);
        due("removeThread(1)", x.removeThread(1), 5);
        dueNet("after removeThread(1)", x, "4 knots 0-1:0 0-3:2 1-2:2 1-3:1 2-3:0");
        due("removeThread(4)", x.removeThread(4), 4);
        dueNet("after removeThread(4)", x, "4 knots 0-1:0 0-3:2 1-2:2 1-3:1");
        x.undo();
        dueNet("after undo", x, "4 knots 0-1:0 0-3:2 1-2:2 1-3:1 2-3:0");
    }

    private static void fault(String text, int want) {
        KnotStripes x = taken(0);
        typed(x, text);
        due("readNet() of '" + text + "'", x.readNet(), want);
        due("count(10)", x.count(10), text.length());
        due("count(9)", x.count(9), want < 0 ? 1 : 2);
        if (want < 0) {
            dueNet("after a fault", x, "4 knots 0-1 0-2 0-3 1-2 1-3 2-3");
        }
    }

    private static void readNetFaults() {
        promise = 7;
        String[] texts = {"", "0", "0-", "0-1,", "0-1,2", "0-1,2-", "1", "12", "1-1", "13-"};
        int[] want = {-100, -101, -102, -104, -105, -106, -101, -102, -2, -103};
        for (int i = 0; i < texts.length; i++) {
            fault(texts[i], want[i]);
        }
        String[] signs = {"-", ",", "x", " 0-1", "00-1", "01-2", "0--1", "0,1", "0-1-2", "0-1,,", "0-1 ", "0-1,,2-3",
            "14-0", "0-14", "19-0", "20-1", "0-20", "99", "130-1", "0-100", "0-00", "0-1,1-2,x", "0-/", "0-:",
            "0-\u0661", "a", "1:", "1/"};
        int[] places = {0, 0, 0, 0, 1, 1, 2, 1, 3, 4, 3, 4,
            1, 3, 1, 1, 3, 1, 2, 4, 3, 8, 2, 2,
            2, 0, 1, 1};
        for (int i = 0; i < signs.length; i++) {
            fault(signs[i], -100 - places[i]);
        }
    }

    private static void readNet() {
        promise = 7;
        fault("0-0", -2);
        fault("0-1,0-1,2-2", -2);
        fault("0-1,3-3", -2);
        fault("13-13", -2);
        fault("0-1,0-1", -4);
        fault("0-1,1-0", -4);
        fault("0-1,0-2,0-3,4-0", -4);
        fault("0-1,0-1,14", -109);
        fault("2-2,x", -104);
        fault("0-1", 2);
        fault("13-0", 14);
        KnotStripes x = read("5-2,0-5,10-5");
        dueNet("after readNet", x, "11 knots 2-5 0-5 5-10");
        typed(x, "3-1,1-2");
        due("readNet()", x.readNet(), 4);
        dueNet("after readNet", x, "4 knots 1-3 1-2");
        due("knot(0, 0)", x.knot(0, 0), 0);
        due("count(10)", x.count(10), 7);
        x.paint(0, 1);
        due("readNet() again", x.readNet(), 4);
        dueNet("after readNet again", x, "4 knots 1-3 1-2");
        due("undo()", x.undo(), 3);
        dueNet("after undo", x, "4 knots 1-3:1 1-2");
        due("count(10) after undo", x.count(10), 7);
        typed(x, "0-1,0-2,0-3,1-2,1-3,2-3,4-5,4-6,4-7,5-6,5-7,6-7,8-9,8-9");
        due("readNet()", x.readNet(), -4);
        typed(x, "0-1,1-2,2-3,3-4,4-5,5-6,6-7,7-8,8-9,0-9,0-2,1-3,4-6,5-7,8-0");
        due("count(10)", x.count(10), 59);
        due("readNet()", x.readNet(), -4);
        typed(x, "0-1,1-2,2-3,3-4,4-5,5-6,6-7,7-8,8-9,0-9,0-2,1-3,4-6,5-7,8-x");
        due("readNet()", x.readNet(), -158);
        typed(x, "0-1,1-2,2-3,3-4,4-5,5-6,6-7,7-8,8-9,0-9,0-2,1-3,4-6,5-7");
        due("readNet()", x.readNet(), 10);
        due("count(1)", x.count(1), 14);
    }

    private static void grow() {
        promise = 8;
        KnotStripes x = taken(0);
        painted(x, 0, 1, 2, 2, 1, 0);
        due("grow(4)", x.grow(4), -1);
        due("grow(-1)", x.grow(-1), -1);
        due("grow(2)", x.grow(2), 4);
        dueNet("after grow(2)", x, "6 knots 0-1:0 0-2:1 0-3:2 1-4:2 1-3:1 3-5:0 2-4 2-5 4-5");
        due("grow(0)", x.grow(0), 6);
        dueNet("after grow(0)", x, "8 knots 0-1:0 2-6:1 3-7:2 1-4:2 1-3:1 3-5:0 2-4 2-5 4-5 0-6 0-7 6-7");
        x.undo();
        due("count(0) after undo", x.count(0), 6);
        x.removeThread(0);
        due("grow(0) with two threads", x.grow(0), -4);
        KnotStripes y = taken(2);
        due("grow(9)", y.grow(9), 10);
        due("grow(9)", y.grow(9), 12);
        due("grow(9)", y.grow(9), -3);
        due("count(9)", y.count(9), 3);
        y.removeKnot(13);
        due("grow(0) with 13 knots", y.grow(0), -3);
        y.removeThread(0);
        due("grow(0) with 13 knots and two threads", y.grow(0), -4);
    }

    private static void shrink() {
        promise = 9;
        KnotStripes x = taken(3);
        painted(x, 0, 1, 2, 0, 1, 2, 1, 2, 0);
        due("shrink(6)", x.shrink(6), -1);
        due("shrink(-1)", x.shrink(-1), -1);
        due("shrink(1)", x.shrink(1), 4);
        dueNet("after shrink(1)", x, "4 knots 1-2:0 2-3:1 1-3:2 0-1:1 0-2:2 0-3:0");
        due("shrink(0) of all joined", x.shrink(0), -4);
        due("undo()", x.undo(), 3);
        due("shrink(5)", x.shrink(5), 4);
        dueNet("after shrink(5)", x, "4 knots 0-1:0 1-2:1 0-2:2 0-3:1 1-3:2 2-3:0");
        KnotStripes y = taken(1);
        due("shrink(0) without a triangle", y.shrink(0), -4);
        KnotStripes z = taken(3);
        z.removeThread(7);
        due("shrink(0) when a neighbour has two threads", z.shrink(0), -4);
        due("shrink(1) with two threads", z.shrink(1), -4);
        due("count(9)", z.count(9), 2);
        KnotStripes diamond = read("0-1,0-2,1-2,1-3,2-3,0-4,3-5");
        due("shrink(0): both others lead to 3", diamond.shrink(0), -4);
        due("shrink(1): this and another one lead to 3", diamond.shrink(1), -4);
        due("shrink(3)", diamond.shrink(3), -4);
        due("shrink(4) with one thread", diamond.shrink(4), -4);
        due("count(9)", diamond.count(9), 1);
        KnotStripes meet = read("0-1,0-2,1-2,0-3,1-3,2-4");
        due("shrink(2): both others lead to 3", meet.shrink(2), -4);
        KnotStripes free = read("0-1,0-2,1-2,0-3,1-4,2-5");
        free.paint(4, 2);
        due("shrink(2)", free.shrink(2), 4);
        dueNet("after shrink(2)", free, "4 knots 0-1 0-2:2 0-3");
        KnotStripes apart = read("5-4,3-4,5-3,5-0,4-1,3-2");
        apart.paint(3, 1);
        due("shrink(5)", apart.shrink(5), 4);
        dueNet("after shrink(5)", apart, "4 knots 0-3:1 1-3 2-3");
    }

    private static void join() {
        promise = 10;
        KnotStripes x = taken(0);
        painted(x, 0, 1, 2, 2, 1, 0);
        due("join(6, 0)", x.join(6, 0), -1);
        due("join(0, 6)", x.join(0, 6), -1);
        due("join(-1, -1)", x.join(-1, -1), -1);
        due("join(3, 3)", x.join(3, 3), -2);
        due("join(5, 0)", x.join(5, 0), 8);
        dueNet("after join(5, 0)", x, "6 knots 0-5:0 0-2:1 0-3:2 1-2:2 1-3:1 2-4:0 3-4 1-5 4-5");
        due("join(0, 1)", x.join(0, 1), 11);
        dueNet("after join(0, 1)", x, "8 knots 0-6:0 0-7:1 0-3:2 1-2:2 1-3:1 2-4:0 3-4 1-5 4-5 5-6 2-7 6-7");
        x.undo();
        due("count(0) after undo", x.count(0), 6);
        KnotStripes y = new KnotStripes();
        for (int i = 0; i < 13; i++) {
            y.addKnot();
        }
        y.addThread(0, 1);
        y.addThread(2, 3);
        due("join(0, 1) with 13 knots", y.join(0, 1), -3);
        due("join(1, 1) with 13 knots", y.join(1, 1), -2);
        due("join(2, 2) with 13 knots", y.join(2, 2), -1);
        y.removeKnot(12);
        due("join(0, 1) with 12 knots", y.join(0, 1), 4);
        due("count(0)", y.count(0), 14);
        dueNet("after join", y, "14 knots 0-12 2-13 1-12 3-13 12-13");
    }

    private static void paint() {
        promise = 11;
        KnotStripes x = taken(0);
        due("paint(0, 3)", x.paint(0, 3), -5);
        due("paint(0, 2)", x.paint(0, 2), 3);
        due("paint(0, 2)", x.paint(0, 2), -5);
        due("count(9)", x.count(9), 2);
        due("paint(0, 0)", x.paint(0, 0), 2);
        due("paint(0, 3)", x.paint(0, 3), 0);
        due("paint(5, 1)", x.paint(5, 1), 3);
        due("paint(0, 4)", x.paint(0, 4), -2);
        due("paint(0, -1)", x.paint(0, -1), -2);
        due("paint(6, 4)", x.paint(6, 4), -1);
        due("paint(-1, 0)", x.paint(-1, 0), -1);
        dueNet("after painting", x, "4 knots 0-1 0-2 0-3 1-2 1-3 2-3:1");
        due("undo()", x.undo(), 3);
        dueNet("after undo", x, "4 knots 0-1 0-2 0-3 1-2 1-3 2-3");
        due("undo()", x.undo(), 2);
        due("thread(0, 2)", x.thread(0, 2), 0);
    }

    private static void exchange() {
        promise = 12;
        KnotStripes x = taken(0);
        painted(x, 0, 1, 2, 2, 1, 0);
        due("exchange(6, 5)", x.exchange(6, 5), -1);
        due("exchange(-1, 0)", x.exchange(-1, 0), -1);
        due("exchange(0, 3)", x.exchange(0, 3), -2);
        due("exchange(0, -1)", x.exchange(0, -1), -2);
        due("exchange(0, 0)", x.exchange(0, 0), -2);
        due("exchange(0, 2)", x.exchange(0, 2), 4);
        dueNet("after exchange(0, 2)", x, "4 knots 0-1:2 0-2:1 0-3:0 1-2:0 1-3:1 2-3:2");
        due("undo()", x.undo(), 3);
        x.paint(0, 3);
        due("exchange(0, 3)", x.exchange(0, 3), -2);
        due("exchange(0, 1)", x.exchange(0, 1), -4);
        due("count(9)", x.count(9), 4);
        due("exchange(3, 0)", x.exchange(3, 0), 3);
        dueNet("after exchange(3, 0)", x, "4 knots 0-1 0-2:1 0-3:0 1-2:0 1-3:1 2-3:2");
        KnotStripes y = read("0-1,1-2,1-3");
        painted(y, 0, 0, 1);
        due("exchange(1, 2)", y.exchange(1, 2), 2);
        dueNet("after exchange(1, 2)", y, "4 knots 0-1:2 1-2:2 1-3:1");
    }

    private static void complete() {
        promise = 13;
        KnotStripes x = taken(0);
        x.paint(5, 2);
        due("complete()", x.complete(), 5);
        dueNet("after complete", x, "4 knots 0-1:2 0-2:0 0-3:1 1-2:1 1-3:0 2-3:2");
        due("complete() again", x.complete(), -5);
        due("count(9)", x.count(9), 3);
        due("undo()", x.undo(), 2);
        due("count(8)", x.count(8), 5);
        x.paint(0, 1);
        due("complete() with 0 and 5 unlike", x.complete(), -4);
        dueNet("after no complete", x, "4 knots 0-1:1 0-2 0-3 1-2 1-3 2-3:2");
        x.paint(1, 1);
        due("complete() with a wrong knot", x.complete(), -4);
        KnotStripes y = read("0-1,1-2");
        painted(y, 1, 1);
        due("complete() with all painted and a wrong knot", y.complete(), -4);
        y.paint(1, 0);
        due("complete() with all painted", y.complete(), -5);
        due("complete() of Petersen's", taken(2).complete(), -4);
        due("complete() without threads", new KnotStripes().complete(), -5);
    }

    private static void type() {
        promise = 14;
        KnotStripes x = new KnotStripes();
        for (int i = 1; i <= 60; i++) {
            due("type", x.type((char) (i * 997)), i);
        }
        due("type('0')", x.type('0'), -3);
        due("count(10)", x.count(10), 60);
        due("count(9)", x.count(9), 0);
        x.addKnot();
        x.undo();
        due("count(10) after undo", x.count(10), 60);
    }

    private static void clearText() {
        promise = 15;
        KnotStripes x = new KnotStripes();
        due("clearText()", x.clearText(), 0);
        typed(x, "0-1");
        due("clearText()", x.clearText(), 3);
        due("count(10)", x.count(10), 0);
        due("readNet()", x.readNet(), -100);
        typed(x, "2-3");
        due("readNet()", x.readNet(), 4);
        due("count(9)", x.count(9), 1);
    }

    private static void undo() {
        promise = 16;
        KnotStripes x = new KnotStripes();
        due("undo()", x.undo(), -5);
        for (int i = 0; i < 6; i++) {
            x.addKnot();
        }
        due("count(9)", x.count(9), 4);
        x.addThread(0, 1);
        x.paint(0, 1);
        due("undo()", x.undo(), 3);
        dueNet("after undo", x, "6 knots 0-1");
        due("undo()", x.undo(), 2);
        due("undo()", x.undo(), 1);
        due("undo()", x.undo(), 0);
        dueNet("after the last undo", x, "4 knots");
        due("undo()", x.undo(), -5);
        due("count(9)", x.count(9), 0);
        x.take(1);
        due("undo()", x.undo(), 0);
        dueNet("after one more", x, "4 knots");
    }

    private static void keepAndRestore() {
        promise = 17;
        KnotStripes x = taken(0);
        x.paint(2, 1);
        due("keep()", x.keep(), 6);
        due("count(9)", x.count(9), 2);
        x.take(1);
        promise = 18;
        due("restore()", x.restore(), 6);
        dueNet("after restore", x, "4 knots 0-1 0-2 0-3:1 1-2 1-3 2-3");
        due("count(9)", x.count(9), 4);
        x.paint(0, 0);
        due("restore()", x.restore(), 6);
        due("thread(0, 2)", x.thread(0, 2), -5);
        due("undo()", x.undo(), 3);
        due("thread(0, 2) after undo", x.thread(0, 2), 0);
        promise = 17;
        x.take(3);
        due("keep() in place of the first", x.keep(), 9);
        x.take(0);
        due("restore()", x.restore(), 9);
        promise = 18;
        KnotStripes y = new KnotStripes();
        due("restore()", y.restore(), -5);
        due("count(9)", y.count(9), 0);
        due("keep() of nothing", y.keep(), 0);
        y.take(0);
        due("restore() of nothing", y.restore(), 0);
        due("count(0)", y.count(0), 0);
        y.undo();
        due("count(0) after undo", y.count(0), 4);
        due("restore() after undo: it stays", y.restore(), 0);
    }

    private static void knot() {
        promise = 19;
        KnotStripes x = read("0-2,2-4,0-4,4-5,1-3");
        painted(x, 0, 1, 1);
        int[][] want = {{5, 20, 0, 53, 3}, {16, 8, 0, 10, -5}, {3, 17, 0, 53, 3}, {16, 2, 0, 10, -5},
            {14, 37, 1, 53, 3}, {8, 16, 0, 53, -5}};
        for (int knot = 0; knot < 6; knot++) {
            for (int what = 0; what < 5; what++) {
                due("knot(" + knot + ", " + what + ")", x.knot(knot, what), want[knot][what]);
            }
        }
        due("knot(6, 9)", x.knot(6, 9), -1);
        due("knot(-1, 0)", x.knot(-1, 0), -1);
        due("knot(0, 5)", x.knot(0, 5), -2);
        due("knot(0, -1)", x.knot(0, -1), -2);
        due("knot(3, 4) of Petersen's", taken(2).knot(3, 4), 5);
        KnotStripes y = new KnotStripes();
        y.addKnot();
        due("knot(0, 3) alone", y.knot(0, 3), 1);
        due("knot(0, 4) alone", y.knot(0, 4), -5);
    }

    private static void thread() {
        promise = 20;
        KnotStripes x = read("0-2,4-2,0-4,5-4,1-3");
        painted(x, 0, 3, 2);
        int[][] want = {{0, 2, 0, 0, 3, 1}, {2, 4, -5, 0, 3, 0}, {0, 4, 2, 0, 3, 0}, {4, 5, -5, 1, -5, 1},
            {1, 3, -5, 1, -5, 1}};
        for (int thread = 0; thread < 5; thread++) {
            for (int what = 0; what < 6; what++) {
                due("thread(" + thread + ", " + what + ")", x.thread(thread, what), want[thread][what]);
            }
        }
        due("thread(5, 9)", x.thread(5, 9), -1);
        due("thread(-1, 0)", x.thread(-1, 0), -1);
        due("thread(0, 6)", x.thread(0, 6), -2);
        due("thread(0, -1)", x.thread(0, -1), -2);
        due("thread(7, 3) of the one with a bridge", taken(4).thread(7, 3), 1);
        due("thread(6, 4) of the prism", taken(3).thread(6, 4), 4);
        due("thread(0, 5) of the cube's kind", taken(1).thread(0, 5), 2);
    }

    private static void between() {
        promise = 21;
        KnotStripes x = taken(2);
        due("between(8, 5)", x.between(8, 5), 14);
        due("between(5, 8)", x.between(5, 8), 14);
        due("between(0, 1)", x.between(0, 1), 0);
        due("between(0, 2)", x.between(0, 2), -5);
        due("between(3, 3)", x.between(3, 3), -5);
        due("between(10, 0)", x.between(10, 0), -1);
        due("between(0, 10)", x.between(0, 10), -1);
        due("between(-1, 0)", x.between(-1, 0), -1);
    }

    private static void chain() {
        promise = 22;
        KnotStripes x = read("0-1,1-2,2-3,3-4,5-6,2-5");
        painted(x, 0, 1, 0, 2, 1);
        due("chain(0, 1)", x.chain(0, 1), 7);
        due("chain(0, 2)", x.chain(0, 2), 1);
        due("chain(2, 2)", x.chain(2, 2), 12);
        due("chain(4, 0)", x.chain(4, 0), 16);
        due("chain(5, 0)", x.chain(5, 0), -4);
        due("chain(5, 3)", x.chain(5, 3), -2);
        due("chain(0, 0)", x.chain(0, 0), -2);
        due("chain(0, -1)", x.chain(0, -1), -2);
        due("chain(6, 7)", x.chain(6, 7), -1);
        due("chain(-1, 0)", x.chain(-1, 0), -1);
        x.paint(5, 0);
        due("chain(0, 1) with a wrong knot", x.chain(0, 1), 55);
    }

    private static void paintings() {
        promise = 23;
        int[][] want = {{1, 6, 6}, {1, 12, 12}, {0, 0, 0}, {1, 6, 6}, {0, 0, 0}};
        for (int which = 0; which < 5; which++) {
            for (int what = 0; what < 3; what++) {
                due("paintings(" + what + ") of " + which, taken(which).paintings(what), want[which][what]);
            }
        }
        KnotStripes x = taken(0);
        x.paint(0, 1);
        due("paintings(1)", x.paintings(1), 2);
        due("paintings(2)", x.paintings(2), 6);
        x.paint(5, 0);
        due("paintings(1) with 0 and 5 unlike", x.paintings(1), 0);
        due("paintings(0)", x.paintings(0), 1);
        x.paint(1, 1);
        due("paintings(1) with a wrong knot", x.paintings(1), 0);
        due("paintings(3)", x.paintings(3), -2);
        due("paintings(-1)", x.paintings(-1), -2);
        due("paintings(1) without threads", new KnotStripes().paintings(1), 1);
        KnotStripes ring = new KnotStripes();
        for (int i = 0; i < 14; i++) {
            ring.addKnot();
        }
        for (int i = 0; i < 14; i++) {
            ring.addThread(i, (i + 1) % 14);
        }
        due("paintings(2) of a ring of 14", ring.paintings(2), 16386);
        KnotStripes apart = read("0-1,2-3,4-5,6-7,8-9,10-11,12-13");
        due("paintings(2) of seven alone", apart.paintings(2), 2187);
        apart.paint(3, 2);
        due("paintings(1) of seven alone, one painted", apart.paintings(1), 729);
    }

    private static void firstPainting() {
        promise = 24;
        int[][] want = {{0, 1, 2, 2, 1, 0}, {0, 1, 2, 1, 2, 0, 2, 0, 1}, null, {0, 1, 2, 0, 1, 2, 1, 2, 0}};
        for (int which = 0; which < want.length; which++) {
            KnotStripes x = taken(which);
            x.paint(0, 2);
            for (int thread = 0; thread < x.count(1); thread++) {
                due("firstPainting(" + thread + ") of " + which, x.firstPainting(thread),
                        want[which] == null ? -5 : want[which][thread]);
            }
        }
        KnotStripes y = taken(2);
        due("firstPainting(15)", y.firstPainting(15), -1);
        due("firstPainting(-1)", y.firstPainting(-1), -1);
        due("count(8)", y.count(8), 15);
    }

    private static void takingOut() {
        promise = 25;
        int[] sets = {0, 0, 5, 0, 257};
        for (int which = 0; which < 5; which++) {
            due("takingOut(0) of " + which, taken(which).takingOut(0), Integer.bitCount(sets[which]));
            due("takingOut(1) of " + which, taken(which).takingOut(1), sets[which]);
        }
        // behind the thread 5-6 stand five knots with seven threads, of which a colour has two at most
        KnotStripes x = read("5-6,0-1,0-2,1-3,2-3,1-4,2-4,3-4");
        due("takingOut(0)", x.takingOut(0), 1);
        due("takingOut(1)", x.takingOut(1), 2);
        due("takingOut(2)", x.takingOut(2), -2);
        due("takingOut(-1)", x.takingOut(-1), -2);
        due("takingOut(1) without knots", new KnotStripes().takingOut(1), 0);
        due("count(1)", x.count(1), 8);
    }

    private static void cover() {
        promise = 26;
        int[] want = {12, 18, 33};
        KnotStripes x = taken(0);
        for (int rank = 0; rank < 3; rank++) {
            due("cover(" + rank + ")", x.cover(rank), want[rank]);
        }
        due("cover(3)", x.cover(3), -5);
        due("cover(-1)", x.cover(-1), -2);
        due("cover(1000000)", x.cover(1000000), -5);
        int[] six = {84, 98, 140, 161, 266, 273};
        for (int rank = 0; rank < 6; rank++) {
            due("cover(" + rank + ") of 1", taken(1).cover(rank), six[rank]);
        }
        due("cover(0) of three knots", read("0-1,1-2,0-2").cover(0), -5);
        due("cover(0) of a row of four", read("0-1,1-2,2-3").cover(0), 5);
        due("cover(1) of a row of four", read("0-1,1-2,2-3").cover(1), -5);
        due("cover(0) without knots", new KnotStripes().cover(0), 0);
        due("cover(1) without knots", new KnotStripes().cover(1), -5);
        KnotStripes alone = read("0-1,2-3");
        alone.addKnot();
        due("cover(0) with a knot alone", alone.cover(0), -5);
    }

    private static void circles() {
        promise = 27;
        KnotStripes x = taken(3);
        int[][] want = {{1, 0, 6}, {1, 0, 6}, {1, 0, 6}, {2, 2, 3}};
        for (int rank = 0; rank < 4; rank++) {
            for (int what = 0; what < 3; what++) {
                due("circles(" + rank + ", " + what + ") of " + x.cover(rank), x.circles(rank, what), want[rank][what]);
            }
        }
        due("circles(4, 0)", x.circles(4, 0), -5);
        due("circles(4, 3)", x.circles(4, 3), -2);
        due("circles(0, 3)", x.circles(0, 3), -2);
        due("circles(0, -1)", x.circles(0, -1), -2);
        due("circles(-1, 0)", x.circles(-1, 0), -2);
        x.removeThread(0);
        due("circles(-1, 7) when not full", x.circles(-1, 7), -4);
        due("circles(0, 0) without knots", new KnotStripes().circles(0, 0), -4);
        due("circles(0, 2) of Petersen's", taken(2).circles(0, 2), 5);
        due("circles(2, 2) of the one with a bridge", taken(4).circles(2, 2), 5);
    }

    private static void fewestOdd() {
        promise = 28;
        int[] want = {0, 0, 2, 0, 2};
        for (int which = 0; which < 5; which++) {
            due("fewestOdd() of " + which, taken(which).fewestOdd(), want[which]);
        }
        due("fewestOdd() without knots", new KnotStripes().fewestOdd(), -4);
        due("fewestOdd() of a ring", read("0-1,1-2,2-3,0-3").fewestOdd(), -4);
        KnotStripes x = taken(0);
        x.addKnot();
        due("fewestOdd() with a knot alone", x.fewestOdd(), -4);
    }

    private static void count() {
        promise = 29;
        KnotStripes x = read("0-2,2-4,0-4,4-5,1-3");
        painted(x, 0, 1, 1);
        int[] want = {6, 5, 0, 2, 2, 3, 1, 1, 2, 4, 19};
        for (int what = 0; what < want.length; what++) {
            due("count(" + what + ")", x.count(what), want[what]);
        }
        due("count(11)", x.count(11), -2);
        due("count(-1)", x.count(-1), -2);
        int[][] built = {{4, 6, 1, 1, 0, 3, 3, 0, 6, 1, 0}, {6, 9, 1, 1, 0, 4, 6, 0, 9, 1, 0},
            {10, 15, 1, 1, 0, 5, 6, 0, 15, 1, 0}, {6, 9, 1, 1, 0, 3, 4, 0, 9, 1, 0}, {10, 15, 1, 1, 1, 3, 4, 0, 15, 1, 0}};
        for (int which = 0; which < 5; which++) {
            for (int what = 0; what < 11; what++) {
                due("count(" + what + ") of " + which, taken(which).count(what), built[which][what]);
            }
        }
        due("count(5) of a row", read("0-1,1-2").count(5), -5);
        KnotStripes y = new KnotStripes();
        y.addKnot();
        y.addKnot();
        due("count(3) of two alone", y.count(3), 2);
        due("count(6) of two alone", y.count(6), 0);
    }

    public static void main(String[] args) {
        constants();
        newObject();
        take();
        addKnot();
        removeKnot();
        addThread();
        removeThread();
        readNetFaults();
        readNet();
        grow();
        shrink();
        join();
        paint();
        exchange();
        complete();
        type();
        clearText();
        undo();
        keepAndRestore();
        knot();
        thread();
        between();
        chain();
        paintings();
        firstPainting();
        takingOut();
        cover();
        circles();
        fewestOdd();
        count();
        System.out.println(wrong == 0 ? "all promises hold" : wrong + " answers are not as due");
        if (wrong != 0) {
            System.exit(1);
        }
    }
}
