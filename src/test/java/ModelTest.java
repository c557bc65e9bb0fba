import java.util.ArrayDeque;
import java.util.ArrayList;
import java.util.Arrays;
import java.util.Collections;
import java.util.Deque;
import java.util.List;
import java.util.TreeMap;
import java.util.function.IntSupplier;

/**
 * Runs the class beside a slow model that is written from the document's words: all circles are
 * walked, all paintings are listed, all sets are tried. The runs come from a fixed row of numbers.
 */
public final class ModelTest {
    static final int UNKNOWN = -1;
    static final int BAD = -2;
    static final int FULL = -3;
    static final int NOT = -4;
    static final int NONE = -5;

    private static int wrong = 0;
    private static long compared = 0;

    /** One thread: both knots and its colour, 3 for none. */
    record Thread3(int a, int b, int c) {
        static Thread3 of(int p, int q, int c) {
            return new Thread3(Math.min(p, q), Math.max(p, q), c);
        }

        boolean at(int k) {
            return a == k || b == k;
        }

        int otherEnd(int k) {
            return a == k ? b : a;
        }

        boolean touches(Thread3 t) {
            return at(t.a) || at(t.b);
        }
    }

    record State(int n, List<Thread3> ts) {
        State copy() {
            return new State(n, new ArrayList<>(ts));
        }
    }

    static final class Model {
        private static final String[] BUILT = {
            "0-1, 0-2, 0-3, 1-2, 1-3, 2-3",
            "0-3, 0-4, 0-5, 1-3, 1-4, 1-5, 2-3, 2-4, 2-5",
            "0-1, 1-2, 2-3, 3-4, 0-4, 0-5, 1-6, 2-7, 3-8, 4-9, 5-7, 7-9, 6-9, 6-8, 5-8",
            "0-1, 1-2, 0-2, 3-4, 4-5, 3-5, 0-3, 1-4, 2-5",
            "0-1, 0-2, 1-3, 2-3, 1-4, 2-4, 3-4, 0-5, 5-6, 5-7, 6-8, 7-8, 6-9, 7-9, 8-9"};
        private static final int[] BUILT_KNOTS = {4, 6, 10, 6, 10};

        State s = new State(0, new ArrayList<>());
        Deque<State> history = new ArrayDeque<>();
        State snapshot = null;
        StringBuilder text = new StringBuilder();
        private Facts facts = null;

        Facts facts() {
            if (facts == null) {
                facts = new Facts(s);
            }
            return facts;
        }

        private void act(State next) {
            history.addLast(s.copy());
            if (history.size() > 4) {
                history.removeFirst();
            }
            s = next;
            facts = null;
        }

        boolean noKnot(int k) {
            return k < 0 || k >= s.n;
        }

        boolean noThread(int t) {
            return t < 0 || t >= s.ts.size();
        }

        int threadBetween(List<Thread3> ts, int p, int q) {
            for (int i = 0; i < ts.size(); i++) {
                if (ts.get(i).at(p) && ts.get(i).at(q) && p != q) {
                    return i;
                }
            }
            return -1;
        }

        static int degree(List<Thread3> ts, int k) {
            return (int) ts.stream().filter(t -> t.at(k)).count();
        }

        int take(int which) {
            if (which < 0 || which > 4) {
                return BAD;
            }
            List<Thread3> ts = new ArrayList<>();
            for (String p : BUILT[which].split(", ")) {
                String[] e = p.split("-");
                ts.add(Thread3.of(Integer.parseInt(e[0]), Integer.parseInt(e[1]), 3));
            }
            act(new State(BUILT_KNOTS[which], ts));
            return s.n;
        }

        int addKnot() {
            if (s.n == 14) {
                return FULL;
            }
            act(new State(s.n + 1, s.ts));
            return s.n - 1;
        }

        static State withoutKnot(State s, int k) {
            List<Thread3> ts = new ArrayList<>();
            for (Thread3 t : s.ts) {
                if (!t.at(k)) {
                    ts.add(Thread3.of(t.a > k ? t.a - 1 : t.a, t.b > k ? t.b - 1 : t.b, t.c));
                }
            }
            return new State(s.n - 1, ts);
        }

        int removeKnot(int k) {
            if (noKnot(k)) {
                return UNKNOWN;
            }
            act(withoutKnot(s, k));
            return s.ts.size();
        }

        int addThread(int p, int q) {
            if (noKnot(p) || noKnot(q)) {
                return UNKNOWN;
            }
            if (p == q) {
                return BAD;
            }
            if (threadBetween(s.ts, p, q) >= 0 || degree(s.ts, p) == 3 || degree(s.ts, q) == 3) {
                return NOT;
            }
            List<Thread3> ts = new ArrayList<>(s.ts);
            ts.add(Thread3.of(p, q, 3));
            act(new State(s.n, ts));
            return ts.size() - 1;
        }

        int removeThread(int t) {
            if (noThread(t)) {
                return UNKNOWN;
            }
            List<Thread3> ts = new ArrayList<>(s.ts);
            ts.remove(t);
            act(new State(s.n, ts));
            return ts.size();
        }

        /** Whether some row of threads begins with this text: found by trying to lengthen it. */
        static boolean canBegin(String x) {
            String[] ends = {"", "0", "-0", "0-0"};
            for (String end : ends) {
                if (isRow(x + end)) {
                    return true;
                }
            }
            return false;
        }

        static boolean isRow(String x) {
            String knot = "(0|[1-9]|1[0-3])";
            return x.matches(knot + "-" + knot + "(," + knot + "-" + knot + ")*");
        }

        int readNet() {
            String x = text.toString();
            if (!isRow(x)) {
                for (int i = 0; i < x.length(); i++) {
                    if (!canBegin(x.substring(0, i + 1))) {
                        return -100 - i;
                    }
                }
                return -100 - x.length();
            }
            List<Thread3> ts = new ArrayList<>();
            int n = 0;
            for (String p : x.split(",")) {
                String[] e = p.split("-");
                ts.add(Thread3.of(Integer.parseInt(e[0]), Integer.parseInt(e[1]), 3));
                n = Math.max(n, ts.get(ts.size() - 1).b + 1);
            }
            for (Thread3 t : ts) {
                if (t.a == t.b) {
                    return BAD;
                }
            }
            for (int i = 0; i < ts.size(); i++) {
                for (int j = 0; j < i; j++) {
                    if (ts.get(i).equals(ts.get(j))) {
                        return NOT;
                    }
                }
            }
            for (int k = 0; k < n; k++) {
                if (degree(ts, k) > 3) {
                    return NOT;
                }
            }
            act(new State(n, ts));
            return n;
        }

        int grow(int k) {
            if (noKnot(k)) {
                return UNKNOWN;
            }
            if (degree(s.ts, k) != 3) {
                return NOT;
            }
            if (s.n > 12) {
                return FULL;
            }
            List<Thread3> ts = new ArrayList<>(s.ts);
            int nth = 0;
            for (int i = 0; i < ts.size(); i++) {
                Thread3 t = ts.get(i);
                if (t.at(k)) {
                    nth++;
                    if (nth > 1) {
                        ts.set(i, Thread3.of(t.otherEnd(k), s.n + nth - 2, t.c));
                    }
                }
            }
            ts.add(Thread3.of(k, s.n, 3));
            ts.add(Thread3.of(k, s.n + 1, 3));
            ts.add(Thread3.of(s.n, s.n + 1, 3));
            act(new State(s.n + 2, ts));
            return s.n - 2;
        }

        int shrink(int k) {
            if (noKnot(k)) {
                return UNKNOWN;
            }
            if (degree(s.ts, k) != 3) {
                return NOT;
            }
            for (int p = 0; p < s.n; p++) {
                for (int q = p + 1; q < s.n; q++) {
                    if (threadBetween(s.ts, k, p) >= 0 && threadBetween(s.ts, k, q) >= 0
                            && threadBetween(s.ts, p, q) >= 0
                            && degree(s.ts, p) == 3 && degree(s.ts, q) == 3) {
                        return shrink(k, p, q);
                    }
                }
            }
            return NOT;
        }

        private int shrink(int k, int p, int q) {
            List<Thread3> ts = new ArrayList<>();
            for (Thread3 t : s.ts) {
                boolean inA = t.a == k || t.a == p || t.a == q;
                boolean inB = t.b == k || t.b == p || t.b == q;
                if (!inA || !inB) {
                    ts.add(Thread3.of(inA ? k : t.a, inB ? k : t.b, t.c));
                }
            }
            for (int i = 0; i < ts.size(); i++) {
                for (int j = 0; j < i; j++) {
                    if (ts.get(i).a == ts.get(j).a && ts.get(i).b == ts.get(j).b) {
                        return NOT;
                    }
                }
            }
            act(withoutKnot(withoutKnot(new State(s.n, ts), q), p));
            return s.n;
        }

        int join(int i, int j) {
            if (noThread(i) || noThread(j)) {
                return UNKNOWN;
            }
            if (i == j) {
                return BAD;
            }
            if (s.n > 12) {
                return FULL;
            }
            List<Thread3> ts = new ArrayList<>(s.ts);
            Thread3 x = ts.get(i);
            Thread3 y = ts.get(j);
            ts.set(i, new Thread3(x.a, s.n, x.c));
            ts.set(j, new Thread3(y.a, s.n + 1, y.c));
            ts.add(new Thread3(x.b, s.n, 3));
            ts.add(new Thread3(y.b, s.n + 1, 3));
            ts.add(new Thread3(s.n, s.n + 1, 3));
            act(new State(s.n + 2, ts));
            return ts.size() - 1;
        }

        int paint(int t, int c) {
            if (noThread(t)) {
                return UNKNOWN;
            }
            if (c < 0 || c > 3) {
                return BAD;
            }
            Thread3 old = s.ts.get(t);
            if (old.c == c) {
                return NONE;
            }
            List<Thread3> ts = new ArrayList<>(s.ts);
            ts.set(t, new Thread3(old.a, old.b, c));
            act(new State(s.n, ts));
            return old.c;
        }

        int exchange(int t, int c) {
            int set = chain(t, c);
            if (set < 0) {
                return set;
            }
            int own = s.ts.get(t).c;
            List<Thread3> ts = new ArrayList<>(s.ts);
            for (int i = 0; i < ts.size(); i++) {
                if ((set >> i & 1) == 1) {
                    Thread3 x = ts.get(i);
                    ts.set(i, new Thread3(x.a, x.b, x.c == own ? c : own));
                }
            }
            act(new State(s.n, ts));
            return Integer.bitCount(set);
        }

        int chain(int t, int c) {
            if (noThread(t)) {
                return UNKNOWN;
            }
            if (c < 0 || c > 2 || s.ts.get(t).c == c) {
                return BAD;
            }
            int own = s.ts.get(t).c;
            if (own == 3) {
                return NOT;
            }
            int set = 1 << t;
            for (boolean more = true; more;) {
                more = false;
                for (int i = 0; i < s.ts.size(); i++) {
                    Thread3 x = s.ts.get(i);
                    if ((set >> i & 1) == 0 && (x.c == own || x.c == c)) {
                        for (int j = 0; j < s.ts.size(); j++) {
                            if ((set >> j & 1) == 1 && x.touches(s.ts.get(j))) {
                                set |= 1 << i;
                                more = true;
                                break;
                            }
                        }
                    }
                }
            }
            return set;
        }

        int complete() {
            long none = s.ts.stream().filter(t -> t.c == 3).count();
            int[] p = facts().firstKept;
            if (p == null) {
                return NOT;
            }
            if (none == 0) {
                return NONE;
            }
            List<Thread3> ts = new ArrayList<>();
            for (int i = 0; i < s.ts.size(); i++) {
                ts.add(new Thread3(s.ts.get(i).a, s.ts.get(i).b, p[i]));
            }
            act(new State(s.n, ts));
            return (int) none;
        }

        int type(char c) {
            if (text.length() == 60) {
                return FULL;
            }
            text.append(c);
            return text.length();
        }

        int clearText() {
            int length = text.length();
            text.setLength(0);
            return length;
        }

        int undo() {
            if (history.isEmpty()) {
                return NONE;
            }
            s = history.removeLast();
            facts = null;
            return history.size();
        }

        int keep() {
            snapshot = s.copy();
            return s.ts.size();
        }

        int restore() {
            if (snapshot == null) {
                return NONE;
            }
            act(snapshot.copy());
            return s.ts.size();
        }

        int knot(int k, int what) {
            if (noKnot(k)) {
                return UNKNOWN;
            }
            int set = 0;
            switch (what) {
                case 0:
                    for (int i = 0; i < s.ts.size(); i++) {
                        set |= s.ts.get(i).at(k) ? 1 << i : 0;
                    }
                    return set;
                case 1:
                    for (Thread3 t : s.ts) {
                        set |= t.at(k) ? 1 << t.otherEnd(k) : 0;
                    }
                    return set;
                case 2: return wrongAt(s.ts, k) ? 1 : 0;
                case 3:
                    for (int i = 0; i < s.n; i++) {
                        set |= facts().part[i] == facts().part[k] ? 1 << i : 0;
                    }
                    return set;
                case 4: return facts().shortest((i, knots) -> (knots >> k & 1) == 1);
                default: return BAD;
            }
        }

        static boolean wrongAt(List<Thread3> ts, int k) {
            for (Thread3 t : ts) {
                for (Thread3 u : ts) {
                    if (t != u && t.at(k) && u.at(k) && t.c == u.c && t.c != 3) {
                        return true;
                    }
                }
            }
            return false;
        }

        int thread(int t, int what) {
            if (noThread(t)) {
                return UNKNOWN;
            }
            Thread3 x = s.ts.get(t);
            int length = facts().shortest((threads, knots) -> (threads >> t & 1) == 1);
            switch (what) {
                case 0: return x.a;
                case 1: return x.b;
                case 2: return x.c == 3 ? NONE : x.c;
                case 3: return length == NONE ? 1 : 0;
                case 4: return length;
                case 5: return (int) facts().covers.stream().filter(c -> (c >> t & 1) == 1).count();
                default: return BAD;
            }
        }

        int between(int p, int q) {
            if (noKnot(p) || noKnot(q)) {
                return UNKNOWN;
            }
            int t = threadBetween(s.ts, p, q);
            return t < 0 ? NONE : t;
        }

        int paintings(int what) {
            switch (what) {
                case 0: return facts().paintings > 0 ? 1 : 0;
                case 1: return facts().paintingsKept;
                case 2: return facts().paintings;
                default: return BAD;
            }
        }

        int firstPainting(int t) {
            if (noThread(t)) {
                return UNKNOWN;
            }
            return facts().first == null ? NONE : facts().first[t];
        }

        int takingOut(int what) {
            if (what != 0 && what != 1) {
                return BAD;
            }
            int set = facts().takingOut();
            return what == 0 ? Integer.bitCount(set) : set;
        }

        int cover(int rank) {
            if (rank < 0) {
                return BAD;
            }
            List<Integer> covers = facts().covers;
            return rank < covers.size() ? covers.get(rank) : NONE;
        }

        boolean full() {
            for (int k = 0; k < s.n; k++) {
                if (degree(s.ts, k) != 3) {
                    return false;
                }
            }
            return s.n > 0;
        }

        int circles(int rank, int what) {
            if (!full()) {
                return NOT;
            }
            if (rank < 0 || what < 0 || what > 2) {
                return BAD;
            }
            if (rank >= facts().covers.size()) {
                return NONE;
            }
            List<Integer> lengths = facts().left(facts().covers.get(rank));
            switch (what) {
                case 0: return lengths.size();
                case 1: return (int) lengths.stream().filter(l -> l % 2 == 1).count();
                default: return Collections.max(lengths);
            }
        }

        int fewestOdd() {
            if (!full()) {
                return NOT;
            }
            int fewest = NONE;
            for (int cover : facts().covers) {
                int odd = (int) facts().left(cover).stream().filter(l -> l % 2 == 1).count();
                fewest = fewest == NONE ? odd : Math.min(fewest, odd);
            }
            return fewest;
        }

        int count(int what) {
            int sum = 0;
            switch (what) {
                case 0: return s.n;
                case 1: return s.ts.size();
                case 2: return full() ? 1 : 0;
                case 3: return (int) Arrays.stream(facts().part).distinct().count();
                case 4:
                    for (int i = 0; i < s.ts.size(); i++) {
                        sum += thread(i, 3);
                    }
                    return sum;
                case 5: return facts().shortest((threads, knots) -> true);
                case 6: return facts().covers.size();
                case 7:
                    for (int i = 0; i < s.n; i++) {
                        sum += knot(i, 2);
                    }
                    return sum;
                case 8: return (int) s.ts.stream().filter(t -> t.c == 3).count();
                case 9: return history.size();
                case 10: return text.length();
                default: return BAD;
            }
        }
    }

    interface CircleTest {
        boolean accepts(int threads, int knots);
    }

    /** What one state shows, found by listing everything. */
    static final class Facts {
        final State s;
        final int[] part;
        /** Each circle: its threads and, in the upper half, its knots. */
        final List<Long> circles = new ArrayList<>();
        final List<Integer> covers = new ArrayList<>();
        int paintings = 0;
        int paintingsKept = 0;
        int[] first = null;
        int[] firstKept = null;
        private int least = -1;

        Facts(State s) {
            this.s = s;
            part = new int[s.n];
            for (int k = 0; k < s.n; k++) {
                part[k] = k;
            }
            for (int round = 0; round < s.n; round++) {
                for (Thread3 t : s.ts) {
                    int low = Math.min(part[t.a], part[t.b]);
                    part[t.a] = low;
                    part[t.b] = low;
                }
            }
            for (int k = 0; k < s.n; k++) {
                walk(k, k, 0, 1 << k);
            }
            cover(0, 0, 0);
            Collections.sort(covers);
            list(0, new int[s.ts.size()]);
        }

        /** All circles whose least knot is the start (each is met in both directions). */
        private void walk(int start, int now, int threads, int knots) {
            for (int i = 0; i < s.ts.size(); i++) {
                Thread3 t = s.ts.get(i);
                if (!t.at(now) || (threads >> i & 1) == 1) {
                    continue;
                }
                int next = t.otherEnd(now);
                if (next == start) {
                    circles.add((long) knots << 32 | threads | 1 << i);
                } else if (next > start && (knots >> next & 1) == 0) {
                    walk(start, next, threads | 1 << i, knots | 1 << next);
                }
            }
        }

        int shortest(CircleTest test) {
            int best = NONE;
            for (long c : circles) {
                int length = Long.bitCount(c & 0xffffffffL);
                if (test.accepts((int) c, (int) (c >> 32)) && (best == NONE || length < best)) {
                    best = length;
                }
            }
            return best;
        }

        private void cover(int thread, int knots, int set) {
            if (thread == s.ts.size()) {
                if (Integer.bitCount(knots) == s.n) {
                    covers.add(set);
                }
                return;
            }
            Thread3 t = s.ts.get(thread);
            cover(thread + 1, knots, set);
            int ends = 1 << t.a | 1 << t.b;
            if ((knots & ends) == 0) {
                cover(thread + 1, knots | ends, set | 1 << thread);
            }
        }

        private void list(int thread, int[] p) {
            if (thread == s.ts.size()) {
                paintings++;
                if (first == null) {
                    first = p.clone();
                }
                boolean kept = true;
                for (int i = 0; i < p.length; i++) {
                    kept &= s.ts.get(i).c == 3 || s.ts.get(i).c == p[i];
                }
                if (kept) {
                    paintingsKept++;
                    if (firstKept == null) {
                        firstKept = p.clone();
                    }
                }
                return;
            }
            for (int c = 0; c < 3; c++) {
                boolean good = true;
                for (int i = 0; i < thread; i++) {
                    good &= p[i] != c || !s.ts.get(i).touches(s.ts.get(thread));
                }
                if (good) {
                    p[thread] = c;
                    list(thread + 1, p);
                }
            }
        }

        private boolean paintable(int out, int thread, int[] p) {
            if (thread == s.ts.size()) {
                return true;
            }
            if ((out >> thread & 1) == 1) {
                p[thread] = 9;
                return paintable(out, thread + 1, p);
            }
            for (int c = 0; c < 3; c++) {
                boolean good = true;
                for (int i = 0; i < thread; i++) {
                    good &= p[i] != c || !s.ts.get(i).touches(s.ts.get(thread));
                }
                if (good) {
                    p[thread] = c;
                    if (paintable(out, thread + 1, p)) {
                        return true;
                    }
                }
            }
            return false;
        }

        int takingOut() {
            if (least < 0) {
                least = paintings > 0 ? 0 : searchLeast();
            }
            return least;
        }

        private int searchLeast() {
            for (int size = 0;; size++) {
                for (int set = 0; set < 1 << s.ts.size(); set++) {
                    if (Integer.bitCount(set) == size
                            && paintable(set, 0, new int[s.ts.size()])) {
                        return set;
                    }
                }
            }
        }

        /** The lengths of the circles that a cover of a full net leaves. */
        List<Integer> left(int cover) {
            List<Integer> lengths = new ArrayList<>();
            for (int i = 0; i < circles.size(); i++) {
                int threads = (int) (long) circles.get(i);
                boolean again = false;
                for (int j = 0; j < i; j++) {
                    again |= (int) (long) circles.get(j) == threads;
                }
                if ((threads & cover) == 0 && !again) {
                    lengths.add(Integer.bitCount(threads));
                }
            }
            return lengths;
        }
    }

    // ---- the runs

    private static long seed = 20261118L;

    private static int number(int below) {
        seed = seed * 6364136223846793005L + 1442695040888963407L;
        return (int) ((seed >>> 33) % below);
    }

    private static final List<String> calls = new ArrayList<>();
    private static final TreeMap<String, Integer> answers = new TreeMap<>();

    private static void same(String call, int got, int want) {
        compared++;
        calls.add(call);
        String kind = call.substring(0, call.indexOf('('));
        answers.merge(kind + (want < 0 && want > -6 ? " " + want : ""), 1, Integer::sum);
        if (got != want) {
            wrong++;
            if (wrong <= 10) {
                System.out.println(call + " answered " + got + ", due is " + want);
                System.out.println("  after " + calls.subList(Math.max(0, calls.size() - 30), calls.size()));
            }
        }
    }

    private static int aKnot(Model m) {
        return number(m.s.n() + (number(8) == 0 ? 2 : 0) + 1) - (number(20) == 0 ? 1 : 0);
    }

    private static int aThread(Model m) {
        return number(m.s.ts().size() + 1) - (number(20) == 0 ? 1 : 0);
    }

    private static String aText() {
        StringBuilder b = new StringBuilder();
        int many = 1 + number(9);
        int knots = 2 + number(13);
        for (int i = 0; i < many; i++) {
            b.append(i == 0 ? "" : ",").append(number(knots)).append('-').append(number(knots));
        }
        if (number(3) == 0) {
            String signs = "0123456789-,x ";
            int place = number(b.length());
            b.setCharAt(place, signs.charAt(number(signs.length())));
        }
        if (number(6) == 0) {
            b.setLength(number(b.length() + 1));
        }
        return b.toString();
    }

    private static void type(KnotStripes x, Model m) {
        if (number(4) != 0) {
            same("clearText()", x.clearText(), m.clearText());
        }
        for (char c : aText().toCharArray()) {
            same("type(" + c + ")", x.type(c), m.type(c));
        }
        same("readNet()", x.readNet(), m.readNet());
    }

    /** A great net, mostly with knots of three threads. */
    private static void tieMany(KnotStripes x, Model m) {
        int knots = 5 + number(10);
        for (int i = 0; i < knots; i++) {
            same("addKnot()", x.addKnot(), m.addKnot());
        }
        int tries = 20 + number(100);
        for (int i = 0; i < tries; i++) {
            int p = number(knots);
            int q = number(knots);
            same("addThread(" + p + "," + q + ")", x.addThread(p, q), m.addThread(p, q));
        }
    }

    private static void call(KnotStripes x, Model m) {
        int p = aKnot(m);
        int q = aKnot(m);
        int t = aThread(m);
        int u = aThread(m);
        int c = number(6) - 1;
        switch (number(24)) {
            case 0: {
                int which = number(20) == 0 ? number(9) - 2 : number(5);
                same("take(" + which + ")", x.take(which), m.take(which));
                break;
            }
            case 1: case 2: same("addKnot()", x.addKnot(), m.addKnot()); break;
            case 3:
                if (number(2) == 0) {
                    same("removeKnot(" + p + ")", x.removeKnot(p), m.removeKnot(p));
                }
                break;
            case 4: case 5: case 6: case 7:
                same("addThread(" + p + "," + q + ")", x.addThread(p, q), m.addThread(p, q)); break;
            case 8: same("removeThread(" + t + ")", x.removeThread(t), m.removeThread(t)); break;
            case 9:
                if (number(3) == 0) {
                    type(x, m);
                }
                break;
            case 10: same("grow(" + p + ")", x.grow(p), m.grow(p)); break;
            case 11: case 12: same("shrink(" + p + ")", x.shrink(p), m.shrink(p)); break;
            case 13: same("join(" + t + "," + u + ")", x.join(t, u), m.join(t, u)); break;
            case 14: case 15: case 16: case 17:
                same("paint(" + t + "," + c + ")", x.paint(t, c), m.paint(t, c)); break;
            case 18: case 19:
                same("exchange(" + t + "," + c + ")", x.exchange(t, c), m.exchange(t, c)); break;
            case 20: same("complete()", x.complete(), m.complete()); break;
            case 21: same("undo()", x.undo(), m.undo()); break;
            case 22:
                if (number(4) == 0) {
                    same("keep()", x.keep(), m.keep());
                }
                break;
            default:
                if (number(3) == 0) {
                    same("restore()", x.restore(), m.restore());
                }
                break;
        }
    }

    private static void ask(String call, IntSupplier got, IntSupplier want) {
        same(call, got.getAsInt(), want.getAsInt());
        calls.remove(calls.size() - 1);
    }

    private static void compareAll(KnotStripes x, Model m) {
        for (int what = -1; what <= 11; what++) {
            int w = what;
            ask("count(" + w + ")", () -> x.count(w), () -> m.count(w));
        }
        for (int knot = -1; knot <= m.s.n(); knot++) {
            int k = knot;
            for (int what = -1; what <= 5; what++) {
                int w = what;
                ask("knot(" + k + "," + w + ")", () -> x.knot(k, w), () -> m.knot(k, w));
            }
            for (int other = -1; other <= m.s.n(); other++) {
                int o = other;
                ask("between(" + k + "," + o + ")", () -> x.between(k, o), () -> m.between(k, o));
            }
        }
        for (int thread = -1; thread <= m.s.ts().size(); thread++) {
            int t = thread;
            for (int what = -1; what <= 6; what++) {
                int w = what;
                ask("thread(" + t + "," + w + ")", () -> x.thread(t, w), () -> m.thread(t, w));
            }
            for (int colour = -1; colour <= 3; colour++) {
                int c = colour;
                ask("chain(" + t + "," + c + ")", () -> x.chain(t, c), () -> m.chain(t, c));
            }
            ask("firstPainting(" + t + ")", () -> x.firstPainting(t), () -> m.firstPainting(t));
        }
        for (int what = -1; what <= 3; what++) {
            int w = what;
            ask("paintings(" + w + ")", () -> x.paintings(w), () -> m.paintings(w));
            ask("takingOut(" + w + ")", () -> x.takingOut(w), () -> m.takingOut(w));
        }
        for (int rank = -1; rank <= m.facts().covers.size(); rank++) {
            int r = rank;
            ask("cover(" + r + ")", () -> x.cover(r), () -> m.cover(r));
            for (int what = -1; what <= 3; what++) {
                int w = what;
                ask("circles(" + r + "," + w + ")", () -> x.circles(r, w), () -> m.circles(r, w));
            }
        }
        ask("fewestOdd()", x::fewestOdd, m::fewestOdd);
    }

    public static void main(String[] args) {
        int runs = args.length > 0 ? Integer.parseInt(args[0]) : 60;
        if (args.length > 1) {
            seed = Long.parseLong(args[1]);
        }
        for (int run = 0; run < runs; run++) {
            KnotStripes x = new KnotStripes();
            Model m = new Model();
            calls.clear();
            if (run % 3 == 0) {
                tieMany(x, m);
            }
            int length = 20 + number(60);
            for (int step = 0; step < length; step++) {
                call(x, m);
                if (number(3) == 0) {
                    compareAll(x, m);
                }
            }
            compareAll(x, m);
        }
        if (args.length > 0) {
            System.out.println(answers);
        }
        System.out.println(compared + " answers were compared with the model's, " + wrong + " are wrong");
        if (wrong != 0) {
            System.exit(1);
        }
    }
}
