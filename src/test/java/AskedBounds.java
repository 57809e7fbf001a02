import java.util.Random;

/** The edges of promises 27 to 35: what is asked of READS in thought and of told ROWS. */
final class AskedBounds extends Checks {

    // ---- 27: would

    @Says(promise = 27, words = "What a READ of a PAGE would cost (what 0)")
    static void wouldCost() {
        changesNothing("without levels", Checks::bare, 50, x -> x.would(63, 0));
        PageLevels x = with(1, 1, 3, 2, 5, 3);
        due("page 0", x.would(0, 0), 56);
        due("page 63", x.would(63, 0), 56);
        readAll(x, 0, 63);
        due("in 1", x.would(63, 0), 1);
        due("in 2", x.would(0, 0), 6);
        due("in none", x.would(1, 0), 56);
    }

    @Says(promise = 27, words = "how many would be FLUSHED by it (1)")
    static void wouldFlush() {
        PageLevels x = with(1, 1, 3, 1, 5, 3);
        due("none", x.would(1, 1), 0);
        x.write(1, 10);
        due("a hit", x.would(1, 1), 0);
        due("2's is clean, 1's is dirty", x.would(2, 1), 1);
        x.sweep(1);
        due("2's is dirty, 1's is clean", x.would(2, 1), 1);
        x.write(1, 11);
        due("both are", x.would(2, 1), 2);
        due("none in truth", x.levelOf(2, 8), 0);
        PageLevels y = with(1, 1, 3);
        y.tell(0, 1);
        readAll(y, 5);
        due("what is read and driven out at once was clean", y.would(6, 1), 0);
    }

    @Says(promise = 27, words = "FETCHED (2)")
    static void wouldFetch() {
        PageLevels x = with(16, 1, 3);
        x.tell(0, 8);
        readAll(x, 5, 8);
        due("run 1", x.would(20, 2), 0);
        due("run 2", x.would(9, 2), 8);
        due("a hit", x.would(8, 2), 0);
        readAll(x, 60);
        due("as far as 63", x.would(61, 2), 2);
        due("none in truth", x.status(7), 0);
        readAll(x, 62);
        due("none behind 63", x.would(63, 2), 0);
        PageLevels y = with(16, 1, 3);
        y.tell(0, 3);
        readAll(y, 5, 6);
        due("three in truth", y.status(7), 3);
        readAll(y, 20);
        due("by it alone", y.would(21, 2), 3);
        due("none by a hit", y.would(7, 2), 0);
    }

    @Says(promise = 27, words = "how many PAGES that were in a LEVEL would be in none (3)")
    static void wouldLose() {
        PageLevels x = with(2, 1, 3);
        due("nothing is held", x.would(0, 3), 0);
        readAll(x, 0, 9);
        due("a hit", x.would(0, 3), 0);
        due("one", x.would(1, 3), 1);
        x.tell(0, 3);
        due("both; what is fetched and driven out wasn't there", x.would(10, 3), 2);
        PageLevels y = with(1, 1, 3, 2, 1, 3);
        readAll(y, 1, 2);
        due("it stays in 2", y.would(1, 3), 0);
        due("out of 1, in 2 still", y.would(3, 3), 1);
        PageLevels z = inMode(2, 1, 1, 3, 1, 1, 3);
        readAll(z, 1, 2);
        due("out of 2, handed on from 1", z.would(3, 3), 1);
    }

    @Says(promise = 27, words = "BAD.")
    static void wouldBad() {
        for (int what = 0; what <= 3; what++) {
            int one = what;
            badForEach("page, what " + what, Checks::busy, (x, page) -> x.would(page, one), -1, 64, LOW, HIGH);
        }
        badForEach("what", Checks::busy, (x, what) -> x.would(1, what), -1, 4, LOW, HIGH);
    }

    @Says(promise = 0, words = "WHAT IS ASKED (nothing is changed)")
    static void wouldChangesNothing() {
        int[] pages = {1, 9, 21, 40, 63};
        for (int page : pages) {
            for (int what = 0; what <= 3; what++) {
                int one = what;
                long answer = busy().would(page, one);
                changesNothing("would " + page + " " + what, Checks::busy, answer, x -> x.would(page, one));
            }
        }
    }

    // ---- told ROWS

    interface Told {
        long of(PageLevels x, int s, int n);
    }

    /** SHELVES: 0 a row of 40 pages, 1 and 3 to 5 rows with what is no page, 2 a rule, 6 no elements, 7 nothing. */
    static PageLevels rows() {
        PageLevels x = with(2, 1, 4, 3, 5, 8);
        x.tell(0, 1);
        x.row(0, 0, 40);
        for (int i = 0; i < 40; i++) {
            x.set(0, i, i * i % 11);
        }
        fill(x, 1, 2, 1, 2, 64);
        x.show(2, 1);
        fill(x, 3, 0, 1, 2, -1, 2);
        fill(x, 4, 3, 1, 2, 1L << 32, 2);
        fill(x, 5, 3, Long.MIN_VALUE, 0);
        x.row(6, 2, 0);
        x.write(1, 10);
        x.image();
        x.write(9, 5);
        feedAll(x, "r10");
        return x;
    }

    /** SHELF and n of one that asks of a told ROW, n at most most, of every step elements one a PAGE. */
    static void toldRow(Told told, int most, int step) {
        badForEach("shelf", AskedBounds::rows, (x, s) -> told.of(x, s, 0), -1, 8, LOW, HIGH);
        badForEach("n", AskedBounds::rows, (x, n) -> told.of(x, 0, n), -1, most + 1, LOW, HIGH, 1 << 30, 1 << 31);
        badForEach("n, ahead of a rule", AskedBounds::rows, (x, n) -> told.of(x, 2, n), -1, most + 1);
        badForEach("n, ahead of nothing", AskedBounds::rows, (x, n) -> told.of(x, 7, n), -1, most + 1);
        refused("a rule", AskedBounds::rows, OTHER, x -> told.of(x, 2, 1));
        refused("none of a rule", AskedBounds::rows, OTHER, x -> told.of(x, 2, 0));
        refused("nothing", AskedBounds::rows, NOTHING, x -> told.of(x, 7, 1));
        refused("none of nothing", AskedBounds::rows, NOTHING, x -> told.of(x, 7, 0));
        refused("one of no elements", AskedBounds::rows, BAD, x -> told.of(x, 6, 1));
        refused("fewer elements", AskedBounds::rows, BAD, x -> told.of(x, 1, 3 / step + 1));
        refused("64 is no page", AskedBounds::rows, BAD, x -> told.of(x, 1, 3));
        refused("-1 is no page", AskedBounds::rows, BAD, x -> told.of(x, 3, step == 1 ? 3 : 2));
        refused("a long that isn't 0", AskedBounds::rows, BAD, x -> told.of(x, 4, step == 1 ? 3 : 2));
        refused("the least long", AskedBounds::rows, BAD, x -> told.of(x, 5, 1));
        asksWell(told, 0, most);
        asksWell(told, 0, 1);
        asksWell(told, 1, 2 / step);
        asksWell(told, 3, 2 / step);
        asksWell(told, 4, 2 / step);
    }

    /** It isn't refused, and nothing changes. */
    static void asksWell(Told told, int s, int n) {
        long answer = told.of(rows(), s, n);
        changesNothing(n + " of shelf " + s, AskedBounds::rows, answer, x -> told.of(x, s, n));
    }

    // ---- 28: plan

    @Says(promise = 28, words = "BAD SHELF, n, what; OTHER; NOTHING; BAD.")
    static void planRefused() {
        for (int what = 0; what <= 2; what++) {
            int one = what;
            toldRow((x, s, n) -> x.plan(s, n, one), 40, 1);
            asksWell((x, s, n) -> x.plan(s, n, one), 0, 0);
        }
        badForEach("what", AskedBounds::rows, (x, what) -> x.plan(0, 1, what), -1, 3, LOW, HIGH);
        badForEach("what, ahead of a rule", AskedBounds::rows, (x, what) -> x.plan(2, 1, what), -1, 3);
        badForEach("what, ahead of nothing", AskedBounds::rows, (x, what) -> x.plan(7, 1, what), -1, 3);
    }

    @Says(promise = 28, words = "the COST of all its READS (what 0), how many are HITS in LEVEL 1 (1), go to MEMORY (2).")
    static void planNoneAndAll() {
        PageLevels x = with(1, 1, 3, 2, 5, 3);
        dueAll("of none", what -> x.plan(rowIn(x, 0), 0, what), 0, 0, 0);
        readAll(x, 1, 2);
        fill(x, 0, 2, 2, 1, 3, 3);
        dueAll("of all", what -> x.plan(0, 4, what), 1 + 6 + 56 + 1, 2, 1);
        dueAll("of three", what -> x.plan(0, 3, what), 1 + 6 + 56, 1, 1);
        PageLevels none = new PageLevels();
        fill(none, 0, 2, 5, 5, 63, 0);
        dueAll("without levels", what -> none.plan(0, 4, what), 200, 0, 4);
    }

    static int rowIn(PageLevels x, int n) {
        x.row(7, 2, n);
        return 7;
    }

    @Says(promise = 0, words = "READ one behind the other from now on, in thought.")
    static void planFromNowOn() {
        PageLevels x = with(4, 1, 3);
        x.tell(0, 1);
        readAll(x, 5);
        fill(x, 0, 2, 6, 7, 8);
        due("the run goes on: 7 is fetched, 8 isn't", x.plan(0, 3, 1), 1);
        due("to memory", x.plan(0, 3, 2), 2);
        PageLevels r = with(2, 1, 6);
        readAll(r, 1, 1, 1, 2);
        fill(r, 0, 2, 3, 1);
        due("with the times that were", r.plan(0, 2, 1), 1);
        PageLevels c = with(2, 1, 7);
        readAll(c, 1, 2, 1);
        fill(c, 0, 2, 3, 1);
        due("with what was used", c.plan(0, 2, 1), 1);
        PageLevels y = with(1, 1, 8, 2, 1, 8);
        y.seed(99);
        y.days(20);
        fill(y, 1, 2, 1, 2, 3, 1, 2, 3, 1, 2, 3, 1);
        int told = y.plan(1, 10, 0);
        int ahead = y.status(9);
        readAll(y, 1, 2, 3, 1, 2, 3, 1, 2, 3, 1);
        due("as it comes, with its draws", y.status(9) - ahead, told);
    }

    @Says(promise = 0, words = "(the first n elements, 0 to 40, of the ROW in a SHELF; all of them PAGES)")
    static void toldFirstElements() {
        PageLevels x = new PageLevels();
        x.row(0, 2, 40);
        for (int i = 0; i < 40; i++) {
            x.set(0, i, 63 - i);
        }
        due("40", x.rowOf(0, 40, 0), 40);
        due("41", x.rowOf(0, 41, 0), BAD);
        x.set(0, 39, 64);
        due("the last is no page", x.rowOf(0, 40, 0), BAD);
        due("behind those that are told", x.rowOf(0, 39, 0), 39);
        x.set(0, 0, -1);
        due("the first is no page", x.rowOf(0, 1, 0), BAD);
        due("none is told", x.rowOf(0, 0, 0), 0);
    }

    // ---- 29: rule, 30: size, 31: modes

    /** By draws: 40 PAGES below 5, put into SHELF 0. */
    static void fillByDraws(PageLevels x, int seed) {
        Random random = new Random(seed);
        x.row(0, 2, 40);
        for (int i = 0; i < 40; i++) {
            x.set(0, i, random.nextInt(3 + seed % 4));
        }
    }

    @Says(promise = 29, words = "BAD level, SHELF, n; OTHER; NOTHING; BAD.")
    static void ruleRefused() {
        toldRow((x, s, n) -> x.rule(1, s, n), 40, 1);
        toldRow((x, s, n) -> x.rule(2, s, n), 40, 1);
        badForEach("level", AskedBounds::rows, (x, level) -> x.rule(level, 0, 1), 0, 3, -1, LOW, HIGH);
        badForEach("level, ahead of a rule", AskedBounds::rows, (x, level) -> x.rule(level, 2, 1), 0, 3);
        badForEach("level, ahead of nothing", AskedBounds::rows, (x, level) -> x.rule(level, 7, 1), 0, 3);
    }

    @Says(promise = 29, words = "The KIND (3 to 8) of RULE of a LEVEL by which the COST of the told ROW (from LEVELS SWEPT "
            + "OUT on) is least, of several the least.")
    static void ruleLeastCost() {
        int seen = 0;
        for (int seed = 0; seed < 80; seed++) {
            int best = 0;
            int least = HIGH;
            for (int kind = 3; kind <= 8; kind++) {
                PageLevels one = with(2 + seed % 2, 1, kind, 3, 5, 4);
                one.seed(seed);
                fillByDraws(one, seed);
                int cost = one.plan(0, 40, 0);
                best = cost < least ? kind : best;
                least = Math.min(cost, least);
            }
            PageLevels x = with(2 + seed % 2, 1, 8, 3, 5, 4);
            readAll(x, 1, 2, 3, 1, 2);
            x.seed(seed);
            fillByDraws(x, seed);
            due("best by draws " + seed, x.rule(1, 0, 40), best);
            seen |= 1 << best;
        }
        due("each kind was the best", seen, 0x1F8);
        PageLevels x = with(2, 1, 8);
        due("of several the least: none told", x.rule(1, rowIn(x, 0), 0), 3);
        due("one told", x.rule(1, rowIn(x, 1), 1), 3);
    }

    @Says(promise = 30, words = "BAD level, SHELF, n, most below 0; OTHER; NOTHING; BAD. (NONE isn't refused.)")
    static void sizeRefused() {
        toldRow((x, s, n) -> x.size(1, s, n, 500), 40, 1);
        toldRow((x, s, n) -> x.size(2, s, n, 0), 40, 1);
        badForEach("level", AskedBounds::rows, (x, level) -> x.size(level, 0, 1, 9), 0, 3, -1, LOW, HIGH);
        badForEach("level, ahead of a rule", AskedBounds::rows, (x, level) -> x.size(level, 2, 1, 9), 0, 3);
        badForEach("most", AskedBounds::rows, (x, most) -> x.size(1, 0, 1, most), -1, LOW);
        badForEach("most, ahead of a rule", AskedBounds::rows, (x, most) -> x.size(1, 2, 1, most), -1, LOW);
        badForEach("most, ahead of nothing", AskedBounds::rows, (x, most) -> x.size(1, 7, 1, most), -1, LOW);
        changesNothing("none", AskedBounds::rows, NONE, x -> x.size(1, 0, 1, 55));
        changesNothing("just enough", AskedBounds::rows, 1, x -> x.size(1, 0, 1, 56));
        changesNothing("the greatest most", AskedBounds::rows, 1, x -> x.size(1, 0, 1, HIGH));
        changesNothing("the least most", AskedBounds::rows, 1, x -> x.size(1, 0, 0, 0));
    }

    @Says(promise = 30, words = "The least SIZE (1 to 16) of a LEVEL by which the COST of the told ROW (from LEVELS SWEPT "
            + "OUT on) is most at most; NONE.")
    static void sizeLeastAndGreatest() {
        PageLevels x = with(5, 1, 4);
        x.row(0, 2, 34);
        for (int i = 0; i < 34; i++) {
            x.set(0, i, i % 17);
        }
        int whole = 34 * 51;
        due("1", x.size(1, 0, 34, whole), 1);
        due("17 would be needed", x.size(1, 0, 34, whole - 1), NONE);
        for (int i = 0; i < 34; i++) {
            x.set(0, i, i % 16);
        }
        due("16", x.size(1, 0, 34, 34 + 16 * 50), 16);
        due("one less", x.size(1, 0, 34, 34 + 16 * 50 - 1), NONE);
        for (int page = 0; page < 5; page++) {
            x.read(page);
        }
        due("from swept out on", x.size(1, 0, 1, 50), NONE);
        due("its own size stays", x.levelOf(1, 0), 5);
    }

    @Says(promise = 30, words = "by which the COST of the told ROW (from LEVELS SWEPT OUT on) is most at most")
    static void sizeLeastCost() {
        for (int seed = 0; seed < 60; seed++) {
            int kind = 3 + seed % 6;
            int most = 400 + seed * 13;
            int least = NONE;
            for (int size = 16; size >= 1; size--) {
                PageLevels one = with(1, 1, 3, size, 5, kind);
                one.seed(seed);
                fillByDraws(one, seed);
                least = one.plan(0, 40, 0) <= most ? size : least;
            }
            PageLevels x = with(1, 1, 3, 9, 5, kind);
            readAll(x, 4, 1, 2, 3, 1, 2);
            x.seed(seed);
            fillByDraws(x, seed);
            due("least by draws " + seed, x.size(2, 0, 40, most), least);
        }
    }

    @Says(promise = 31, words = "BAD SHELF, n; OTHER; NOTHING; BAD.")
    static void modesRefused() {
        toldRow((x, s, n) -> x.modes(s, n), 40, 1);
        asksWell((x, s, n) -> x.modes(s, n), 0, 0);
    }

    @Says(promise = 31, words = "MODES (bits) by which the COST of the told ROW (from LEVELS SWEPT OUT on) is least.")
    static void modesLeastCost() {
        int seen = 0;
        for (int seed : new int[] {16, 67, 4212, 0, 19, 1749, 4114, 1, 2, 3, 4, 5, 6, 7, 8, 9, 10, 11, 12, 13, 14, 15}) {
            int[] costs = new int[3];
            for (int mode = 0; mode <= 2; mode++) {
                PageLevels one = levelsByDraws(mode, seed);
                costs[mode] = one.plan(0, 40, 0);
            }
            int least = Math.min(costs[0], Math.min(costs[1], costs[2]));
            int bits = (costs[0] == least ? 1 : 0) + (costs[1] == least ? 2 : 0) + (costs[2] == least ? 4 : 0);
            PageLevels x = levelsByDraws(seed % 3, seed);
            readAll(x, 4, 1, 2, 3, 1, 2);
            x.seed(seed);
            due("least by draws " + seed, x.modes(0, 40), bits);
            seen |= 1 << bits;
        }
        due("answers that were seen", seen, 0xFE);
        PageLevels x = busy();
        due("all, as none is told", x.modes(rowIn(x, 0), 0), 7);
        PageLevels none = bare();
        due("all, without levels", none.modes(0, 5), 7);
    }

    /** LEVELS that hold nothing yet, and a told ROW in SHELF 0. */
    static PageLevels levelsByDraws(int mode, int seed) {
        Random random = new Random(seed);
        PageLevels x = inMode(mode, 1 + random.nextInt(4), random.nextInt(5), 3 + random.nextInt(6),
                1 + random.nextInt(3), random.nextInt(20), 3 + random.nextInt(6));
        x.tell(0, random.nextInt(3));
        x.seed(seed);
        x.row(0, 2, 40);
        int pages = 5 + random.nextInt(8);
        int page = 0;
        for (int i = 0; i < 40; i++) {
            page = random.nextInt(3) == 0 ? page + 1 : random.nextInt(pages);
            x.set(0, i, page);
        }
        return x;
    }

    // ---- 32: foresight

    @Says(promise = 32, words = "BAD SHELF, n, slots; OTHER; NOTHING; BAD.")
    static void foresightRefused() {
        toldRow((x, s, n) -> x.foresight(s, n, 1), 40, 1);
        toldRow((x, s, n) -> x.foresight(s, n, 16), 40, 1);
        badForEach("slots", AskedBounds::rows, (x, slots) -> x.foresight(0, 1, slots), 0, 17, -1, LOW, HIGH);
        badForEach("slots, ahead of a rule", AskedBounds::rows, (x, slots) -> x.foresight(2, 1, slots), 0, 17);
        badForEach("slots, ahead of nothing", AskedBounds::rows, (x, slots) -> x.foresight(7, 1, slots), 0, 17);
        changesNothing("none told", AskedBounds::rows, 0, x -> x.foresight(0, 0, 1));
    }

    @Says(promise = 32, words = "FORESIGHT of the told ROW with SLOTS (1 to 16).")
    static void foresightLeastAndGreatest() {
        PageLevels x = new PageLevels();
        x.row(0, 2, 40);
        for (int i = 0; i < 40; i++) {
            x.set(0, i, i % 17);
        }
        due("1", x.foresight(0, 40, 1), 0);
        due("16", x.foresight(0, 40, 16), 22);
        due("2", x.foresight(0, 40, 2), 2);
        due("one read", x.foresight(0, 1, 1), 0);
        for (int i = 0; i < 40; i++) {
            x.set(0, i, 63);
        }
        due("all but the first", x.foresight(0, 40, 1), 39);
    }

    @Says(promise = 0, words = "how many READS of it could be HITS in one LEVEL, empty at first, in which each READ is PLACED")
    static void foresightFromEmpty() {
        PageLevels x = with(16, 1, 3);
        readAll(x, 5, 6);
        fill(x, 0, 2, 5, 6, 5, 6);
        due("what is in levels doesn't count", x.foresight(0, 4, 2), 2);
        fill(x, 1, 2, 5, 6, 5, 7, 5);
        due("each is placed, also one that isn't read again", x.foresight(1, 5, 1), 0);
    }

    @Says(promise = 0, words = "the VICTIM is always the one READ again latest (or never; of several the least PAGE)")
    static void foresightVictims() {
        PageLevels x = new PageLevels();
        fill(x, 0, 2, 1, 2, 3, 1, 2);
        due("2 is read later than 1", x.foresight(0, 5, 2), 1);
        fill(x, 1, 2, 1, 2, 3, 2, 2);
        due("1 never", x.foresight(1, 5, 2), 2);
        fill(x, 2, 2, 9, 8, 7, 7, 9);
        due("9 is read again, 8 never", x.foresight(2, 5, 2), 2);
        fill(x, 3, 2, 0, 5, 6, 5, 6);
        due("0 never", x.foresight(3, 5, 2), 2);
        fill(x, 4, 2, 63, 5, 6, 5, 63, 6);
        due("63 later than 5", x.foresight(4, 6, 2), 2);
    }

    // ---- 33: reuse, 34: rowOf

    @Says(promise = 33, words = "BAD SHELF, n; OTHER; NOTHING; BAD: also no i-th. (NONE isn't refused.)")
    static void reuseRefused() {
        toldRow((x, s, n) -> x.reuse(s, n, 0), 40, 1);
        badForEach("no i-th", AskedBounds::rows, (x, i) -> x.reuse(0, 5, i), -1, 5, 39, 40, LOW, HIGH);
        refused("none is told", AskedBounds::rows, BAD, x -> x.reuse(0, 0, 0));
        refused("a rule, ahead of i", AskedBounds::rows, OTHER, x -> x.reuse(2, 5, -1));
        refused("nothing, ahead of i", AskedBounds::rows, NOTHING, x -> x.reuse(7, 5, 5));
        changesNothing("never", AskedBounds::rows, NONE, x -> x.reuse(0, 1, 0));
        changesNothing("the last", AskedBounds::rows, 0, x -> x.reuse(0, 40, 39));
        changesNothing("the last but one", AskedBounds::rows, 5, x -> x.reuse(0, 40, 38));
    }

    @Says(promise = 0, words = "REUSE of the i-th: how many other PAGES were READ since it was READ last (NONE: never).")
    static void reuseEach() {
        PageLevels x = with(4, 1, 3);
        readAll(x, 7, 8);
        fill(x, 0, 2, 7, 7, 0, 63, 0, 63, 7, 7);
        dueAll("reuse of", i -> x.reuse(0, 8, i), NONE, 0, NONE, NONE, 1, 1, 2, 0);
        x.row(1, 2, 40);
        for (int i = 0; i < 39; i++) {
            x.set(1, i, i);
        }
        due("the greatest", x.reuse(1, 40, 39), 38);
    }

    @Says(promise = 34, words = "BAD SHELF, n, what; OTHER; NOTHING; BAD. (NONE isn't refused.)")
    static void rowOfRefused() {
        for (int what = 0; what <= 2; what++) {
            int one = what;
            toldRow((x, s, n) -> x.rowOf(s, n, one), 40, 1);
        }
        badForEach("what", AskedBounds::rows, (x, what) -> x.rowOf(0, 1, what), -1, 3, LOW, HIGH);
        badForEach("what, ahead of a rule", AskedBounds::rows, (x, what) -> x.rowOf(2, 1, what), -1, 3);
        badForEach("what, ahead of nothing", AskedBounds::rows, (x, what) -> x.rowOf(7, 1, what), -1, 3);
        changesNothing("no pages", AskedBounds::rows, 0, x -> x.rowOf(0, 0, 0));
        changesNothing("no reuse", AskedBounds::rows, NONE, x -> x.rowOf(0, 1, 1));
        changesNothing("none told", AskedBounds::rows, NONE, x -> x.rowOf(0, 0, 1));
        changesNothing("none told", AskedBounds::rows, NONE, x -> x.rowOf(6, 0, 2));
    }

    @Says(promise = 34, words = "the greatest REUSE (1; NONE: none), the PAGE that is in it most often (2; of several the "
            + "least; NONE: n 0).")
    static void rowOfEach() {
        PageLevels x = new PageLevels();
        fill(x, 0, 2, 63, 0, 63, 5, 0, 63);
        dueAll("of one", what -> x.rowOf(0, 1, what), 1, NONE, 63);
        dueAll("of two", what -> x.rowOf(0, 2, what), 2, NONE, 0);
        dueAll("of three", what -> x.rowOf(0, 3, what), 2, 1, 63);
        dueAll("of five", what -> x.rowOf(0, 5, what), 3, 2, 0);
        dueAll("of six", what -> x.rowOf(0, 6, what), 3, 2, 63);
        fill(x, 1, 2, 4, 4);
        dueAll("one behind itself", what -> x.rowOf(1, 2, what), 1, 0, 4);
    }

    // ---- 35: judge

    @Says(promise = 35, words = "BAD SHELF, n; OTHER; NOTHING; BAD. (NONE isn't refused.)")
    static void judgeRefused() {
        toldRow((x, s, n) -> x.judge(s, n), 20, 2);
        changesNothing("none told", AskedBounds::rows, NONE, x -> x.judge(0, 0));
        changesNothing("none of no elements", AskedBounds::rows, NONE, x -> x.judge(6, 0));
        PageLevels x = new PageLevels();
        x.row(0, 2, 39);
        due("half a two is missing", x.judge(0, 20), BAD);
        due("19", x.judge(0, 19), NONE);
    }

    @Says(promise = 35, words = "the first n twos (0 to 20) of the ROW in SHELF s: a PAGE, the LEVEL by which a READ of it "
            + "would be answered (0: MEMORY)")
    static void judgeAll() {
        PageLevels x = with(1, 1, 3, 2, 1, 3);
        x.row(0, 2, 40);
        for (int i = 0; i < 20; i++) {
            x.set(0, 2 * i, i % 2 == 0 ? 0 : 63);
            x.set(0, 2 * i + 1, i < 2 ? 0 : 2);
        }
        due("all 20", x.judge(0, 20), NONE);
        x.set(0, 39, 1);
        due("the last isn't so", x.judge(0, 20), 19);
        due("19", x.judge(0, 19), NONE);
        x.set(0, 1, 2);
        due("the first isn't so", x.judge(0, 20), 0);
        due("nothing is read", x.status(5), 0);
    }

    @Says(promise = 35, words = "READ one behind the other in thought: the first that isn't so; NONE.")
    static void judgeAnyLevel() {
        PageLevels x = with(1, 1, 3, 2, 1, 3);
        for (long level : new long[] {1, 2, 3, 5, -1, LOW, HIGH, 1L << 32, Long.MIN_VALUE}) {
            fill(x, 0, 3, 9, level);
            due("level " + level + " isn't so", x.judge(0, 1), 0);
        }
        due("none is refused", x.status(12), 0);
        fill(x, 0, 3, 9, 1, 64, 0);
        due("no page, though the first isn't so", x.judge(0, 2), BAD);
        due("behind those that are told", x.judge(0, 1), 0);
    }
}
