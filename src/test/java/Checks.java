import java.util.ArrayList;
import java.util.List;

/** What the tests share: answers that are due, objects to ask, and whether a call changed anything else. */
class Checks {
    static final int NONE = -1;
    static final int BAD = -52;
    static final int OTHER = -53;
    static final int NOTHING = -54;
    static final int STUCK = -55;
    static final int FULL = -56;
    static final long BITS = 9000000000000000000L;
    static final int LOW = Integer.MIN_VALUE;
    static final int HIGH = Integer.MAX_VALUE;

    static int checks = 0;
    static int wrong = 0;
    /** What stands ahead of each answer that isn't as due. */
    static String promise = "";

    interface Make {
        PageLevels make();
    }

    interface Ask {
        long of(PageLevels x);
    }

    interface Look {
        void at(PageLevels x, List<Long> seen);
    }

    static void due(String what, long got, long want) {
        checks++;
        if (got != want) {
            wrong++;
            System.out.println(promise + ": " + what + " answered " + got + ", due is " + want);
        }
    }

    /** The answers of a call whose argument goes from 0 on. */
    interface Answers {
        long of(int i);
    }

    static void dueAll(String what, Answers got, long... want) {
        for (int i = 0; i < want.length; i++) {
            due(what + " " + i, got.of(i), want[i]);
        }
    }

    // ---- objects

    /** A new object with LEVELS, of each its size, cost and kind. */
    static PageLevels with(int... levels) {
        PageLevels x = new PageLevels();
        for (int i = 0; i + 2 < levels.length; i += 3) {
            x.level(levels[i], levels[i + 1], levels[i + 2]);
        }
        return x;
    }

    static PageLevels inMode(int mode, int... levels) {
        PageLevels x = with(levels);
        x.mode(0, mode);
        return x;
    }

    /** Two LEVELS, of which one is DRAWN, with DIRTY PAGES, ROWS, RULES, a tape, an image: much to be spoilt. */
    static PageLevels busy() {
        PageLevels x = with(2, 1, 4, 3, 5, 8);
        x.tell(0, 2);
        fill(x, 0, 2, 1, 2, 3, 1, 9, 64, -1, 2);
        fill(x, 1, 0, 5, 6);
        x.show(2, 1);
        x.show(3, 2);
        x.row(4, 4, 40);
        x.write(1, 10);
        x.write(2, 20);
        x.image();
        x.read(3);
        x.write(9, 5);
        x.read(20);
        feedAll(x, "r21 w7=7");
        return x;
    }

    /** As many LEVELS as may be, one of each RULE of most kinds. */
    static PageLevels crowded() {
        PageLevels x = with(1, 1, 3, 2, 2, 7, 2, 3, 6, 3, 4, 5);
        x.tell(0, 1);
        fill(x, 0, 2, 1, 2, 3, 1, 9);
        x.show(1, 4);
        x.write(1, 10);
        x.image();
        x.write(5, 20);
        x.read(6);
        feedAll(x, "r7");
        return x;
    }

    /** No LEVELS, but values in MEMORY, a ROW and a tape. */
    static PageLevels bare() {
        PageLevels x = new PageLevels();
        fill(x, 0, 2, 1, 2, 3, 1, 9);
        x.write(1, 10);
        x.read(2);
        feedAll(x, "r3");
        return x;
    }

    static void fill(PageLevels x, int s, int sort, long... elements) {
        x.row(s, sort, elements.length);
        for (int i = 0; i < elements.length; i++) {
            x.set(s, i, elements[i]);
        }
    }

    static void readAll(PageLevels x, int... pages) {
        for (int page : pages) {
            x.read(page);
        }
    }

    static void feedAll(PageLevels x, String text) {
        for (char c : text.toCharArray()) {
            x.feed(c);
        }
    }

    static int traffic(PageLevels x, String text) {
        feedAll(x, text);
        return x.traffic();
    }

    static long bits(int... pages) {
        long bits = 0;
        for (int page : pages) {
            bits |= 1L << page;
        }
        return bits;
    }

    /** A SEED as the document says it becomes. */
    static int nextSeed(int seed) {
        return seed * 1103515245 + 12345;
    }

    /** What is drawn below n as a SEED becomes that. */
    static int drawn(int seed, int n) {
        return (int) ((seed & 0xFFFFFFFFL) / 65536 % n);
    }

    // ---- what a call changes

    /** A call is refused: its answer, one more of its REFUSALS; and nothing else is changed. */
    static void refused(String what, Make make, long answer, int number, Ask ask) {
        int kind = BAD - number;
        checkCall(what, make, answer, kind, ask);
    }

    static void refused(String what, Make make, int number, Ask ask) {
        refused(what, make, number, number, ask);
    }

    /** A call of several pages, shelves.. that may not be is BAD for each of them. */
    static void badForEach(String what, Make make, Ask1 ask, int... wrongOnes) {
        for (int one : wrongOnes) {
            refused(what + " " + one, make, BAD, x -> ask.of(x, one));
        }
    }

    interface Ask1 {
        long of(PageLevels x, int one);
    }

    /** A call answers, refuses nothing and changes nothing. */
    static void changesNothing(String what, Make make, long answer, Ask ask) {
        checkCall(what, make, answer, -1, ask);
    }

    private static void checkCall(String what, Make make, long answer, int refusedKind, Ask ask) {
        Look[] looks = {Checks::levels, Checks::memory, Checks::shelves, Checks::comes, Checks::imaged};
        for (Look look : looks) {
            PageLevels x = make.make();
            PageLevels twin = make.make();
            due(what, ask.of(x), answer);
            for (int kind = 0; kind < 5; kind++) {
                int more = kind == refusedKind ? 1 : 0;
                due(what + ", refusals " + (BAD - kind), x.status(12 + kind), twin.status(12 + kind) + more);
            }
            List<Long> is = new ArrayList<>();
            List<Long> was = new ArrayList<>();
            look.at(x, is);
            look.at(twin, was);
            due(what + ", how much is seen", is.size(), was.size());
            for (int i = 0; i < is.size() && i < was.size(); i++) {
                due(what + ", what is seen " + i, is.get(i), was.get(i));
            }
        }
    }

    private static void levels(PageLevels x, List<Long> seen) {
        counts(x, seen);
        for (int level = 1; level <= x.status(0); level++) {
            for (int what = 0; what <= 9; what++) {
                seen.add((long) x.levelOf(level, what));
            }
            for (int slot = 0; slot < x.levelOf(level, 0); slot++) {
                for (int what = 0; what <= 5; what++) {
                    seen.add((long) x.slot(level, slot, what));
                }
            }
        }
    }

    private static void counts(PageLevels x, List<Long> seen) {
        for (int what = 0; what <= 11; what++) {
            seen.add((long) x.status(what));
        }
        seen.add((long) x.status(17));
        seen.add(x.pages(0));
    }

    private static void memory(PageLevels x, List<Long> seen) {
        for (int page = 0; page < 64; page++) {
            seen.add((long) x.value(0, page));
            seen.add((long) x.often(page));
        }
        for (int level = 0; level <= x.status(0); level++) {
            seen.add(x.pages(level));
        }
        for (int what = 0; what <= 2; what++) {
            seen.add(x.differ(what));
        }
        seen.add((long) x.kept());
        for (int i = 0; i < 20 && i < x.status(5); i++) {
            for (int what = 0; what <= 3; what++) {
                seen.add((long) x.past(i, what));
            }
        }
    }

    private static void shelves(PageLevels x, List<Long> seen) {
        for (int s = 0; s < 8; s++) {
            int held = x.holds(s);
            seen.add((long) held);
            for (int i = 0; i < 40 && held >= 0 && held <= 4; i++) {
                seen.add(x.element(s, i));
                // where there is no element none can be put
                seen.add((long) x.set(s, i, 1));
            }
            for (int kind = 0; kind <= 8 && held > 10; kind++) {
                seen.add((long) x.says(s, kind));
            }
        }
    }

    private static void comes(PageLevels x, List<Long> seen) {
        seen.add((long) x.traffic());
        counts(x, seen);
        seen.add((long) x.days(9));
        counts(x, seen);
        levels(x, seen);
    }

    private static void imaged(PageLevels x, List<Long> seen) {
        seen.add((long) x.back());
        levels(x, seen);
        seen.add((long) x.days(9));
        levels(x, seen);
    }
}
