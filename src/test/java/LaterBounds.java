/** The edges of promises 36 to 42: what was READ, DAYS by draws, IMAGES, status. */
final class LaterBounds extends Checks {

    // ---- 36: past, 37: often

    @Says(promise = 36, words = "The i-th latest READ or WRITE (0 the latest; 20 are kept)")
    static void pastTwenty() {
        PageLevels x = new PageLevels();
        for (int page = 0; page < 20; page++) {
            x.read(page);
            due("as far as they go", x.past(page, 0), 0);
            due("no more", x.past(page + 1, 0), BAD);
        }
        due("the latest", x.past(0, 0), 19);
        due("the 20th", x.past(19, 0), 0);
        x.read(50);
        due("the latest", x.past(0, 0), 50);
        due("the 20th", x.past(19, 0), 1);
        due("the 21st isn't kept", x.past(20, 0), BAD);
    }

    @Says(promise = 36, words = "PAGE (what 0), 1 if it was a WRITE, else 0 (1), its COST (2), the LEVEL that had it (3; 0: "
            + "MEMORY).")
    static void pastEach() {
        PageLevels x = with(1, 1, 3, 1, 2, 3, 1, 4, 3, 2, 8, 3);
        x.write(0, 5);
        x.read(63);
        x.write(0, 6);
        x.read(0);
        dueAll("a hit", what -> x.past(0, what), 0, 0, 1, 1);
        dueAll("a write, from 4", what -> x.past(1, what), 0, 1, 15, 4);
        dueAll("a read, from memory", what -> x.past(2, what), 63, 0, 65, 0);
        dueAll("a write, from memory", what -> x.past(3, what), 0, 1, 65, 0);
    }

    @Says(promise = 36, words = "BAD: also none kept.")
    static void pastBad() {
        badForEach("none kept", PageLevels::new, (x, i) -> x.past(i, 0), 0, 1, 19, -1);
        badForEach("i", Checks::busy, (x, i) -> x.past(i, 0), -1, 5, 19, 20, LOW, HIGH);
        badForEach("what", Checks::busy, (x, what) -> x.past(0, what), -1, 4, LOW, HIGH);
        PageLevels x = new PageLevels();
        x.days(60);
        due("20 are kept", x.past(19, 2), 50);
        due("not 21", x.past(20, 2), BAD);
        due("not 60", x.past(59, 2), BAD);
    }

    @Says(promise = 37, words = "READS and WRITES of a PAGE so far.")
    static void oftenFirstAndLast() {
        PageLevels x = with(1, 1, 3);
        due("none", x.often(0) + x.often(63), 0);
        x.read(0);
        x.write(63, 1);
        x.write(63, 1);
        due("page 0", x.often(0), 1);
        due("page 63", x.often(63), 2);
        x.would(0, 0);
        fill(x, 0, 2, 0, 63);
        x.plan(0, 2, 0);
        x.judge(0, 1);
        x.tell(0, 8);
        x.read(20);
        x.read(21);
        due("not in thought", x.often(0) + x.often(63), 3);
        due("not what is fetched", x.often(22), 0);
        x.clear();
        due("clearing changes it not", x.often(63), 2);
    }

    @Says(promise = 37, words = "BAD.")
    static void oftenBad() {
        badForEach("page", Checks::busy, PageLevels::often, -1, 64, LOW, HIGH);
    }

    // ---- 38: days, 39: seed

    @Says(promise = 38, words = "DAYS by draws, n (1 to 60): their COST, all together.")
    static void daysLeastAndGreatest() {
        PageLevels x = new PageLevels();
        due("one", x.days(1), 50);
        due("turns", x.status(5), 1);
        due("60", x.days(60), 3000);
        due("turns", x.status(5), 61);
        due("in all", x.status(9), 3050);
    }

    @Says(promise = 38, words = "BAD.")
    static void daysBad() {
        badForEach("n", Checks::busy, PageLevels::days, 0, 61, -1, LOW, HIGH);
        badForEach("n, without levels", Checks::bare, PageLevels::days, 0, 61);
    }

    /** The first SEED from 0 on by which a first DAY has a PAGE (drawn, not the one behind another), and the next none drawn. */
    static int seedFor(int page) {
        for (int seed = 0; seed < 1 << 20; seed++) {
            int write = nextSeed(seed);
            int which = nextSeed(write);
            int where = nextSeed(which);
            boolean first = drawn(write, 4) != 0 && drawn(which, 3) == 0 && drawn(where, 64) == page;
            int nextWrite = nextSeed(where);
            int nextWhich = nextSeed(nextWrite);
            if (first && drawn(nextWrite, 4) != 0 && drawn(nextWhich, 3) != 0) {
                return seed;
            }
        }
        return NONE;
    }

    @Says(promise = 0, words = "1 more than the one ahead (0 behind 63; 1 at first)")
    static void dayBehindAnother() {
        for (int page : new int[] {0, 1, 62, 63}) {
            PageLevels x = new PageLevels();
            x.seed(seedFor(page));
            x.days(2);
            due("drawn", x.past(1, 0), page);
            due("behind " + page, x.past(0, 0), page == 63 ? 0 : page + 1);
        }
    }

    @Says(promise = 0, words = "1 at first")
    static void dayAtFirst() {
        int seed = 0;
        while (drawn(nextSeed(nextSeed(seed)), 3) == 0) {
            seed++;
        }
        PageLevels x = new PageLevels();
        x.seed(seed);
        x.days(1);
        due("the first", x.past(0, 0), 1);
        PageLevels y = new PageLevels();
        y.read(40);
        y.seed(seed);
        y.days(1);
        due("a read ahead is no day", y.past(0, 0), 1);
    }

    @Says(promise = 0, words = "a DRAW below 4: 0: WRITE of a VALUE (a DRAW below 100), else READ")
    static void dayWritesOrReads() {
        PageLevels x = new PageLevels();
        int writes = 0;
        for (int day = 0; day < 100; day++) {
            int seed = x.status(11);
            boolean write = drawn(nextSeed(seed), 4) == 0;
            boolean jump = drawn(nextSeed(nextSeed(seed)), 3) == 0;
            x.days(1);
            due("a write " + day, x.past(0, 1), write ? 1 : 0);
            if (write) {
                writes++;
                due("its value", x.value(0, x.past(0, 0)), drawn(x.status(11), 100));
            }
            int draws = 2 + (write ? 1 : 0) + (jump ? 1 : 0);
            int after = seed;
            for (int i = 0; i < draws; i++) {
                after = nextSeed(after);
            }
            due("as many draws", x.status(11), after);
        }
        due("some were written", writes > 10 && writes < 40 ? 1 : 0, 1);
    }

    @Says(promise = 39, words = "SEED becomes v: the one ahead.")
    static void seedAnyNumber() {
        PageLevels x = new PageLevels();
        int ahead = 1;
        for (int v : new int[] {LOW, HIGH, 0, -1, 1}) {
            due("ahead", x.seed(v), ahead);
            due("told", x.status(11), v);
            ahead = v;
        }
        dueAll("nothing is refused", kind -> x.status(12 + kind), 0, 0, 0, 0, 0);
    }

    // ---- 40: image, 41: back

    @Says(promise = 41, words = "STUCK: nothing was.")
    static void backStuck() {
        refused("nothing was", PageLevels::new, STUCK, PageLevels::back);
        refused("nothing was", Checks::bare, STUCK, PageLevels::back);
        PageLevels x = new PageLevels();
        x.image();
        due("nothing is enough", x.back(), 1);
        due("not refused", x.status(15), 0);
    }

    @Says(promise = 40, words = "All is kept, but THE TAPE, SHELVES and REFUSALS: 1.")
    static void imageKeeps() {
        PageLevels x = busy();
        due("image", x.image(), 1);
        int refused = x.status(12);
        x.read(64);
        x.feed(32);
        x.set(0, 0, 7);
        x.row(7, 0, 1);
        x.show(2, -1);
        due("back", x.back(), 1);
        due("the tape is as it was", x.status(10), 9);
        due("so are elements", x.element(0, 0), 7);
        due("so are shelves", x.holds(7) + x.holds(2), NONE);
        due("so are refusals", x.status(12), refused + 1);
    }

    @Says(promise = 41, words = "All is again as it was kept")
    static void backToWhatWas() {
        PageLevels x = busy();
        x.seed(-5);
        x.days(20);
        x.image();
        PageLevels twin = busy();
        twin.seed(-5);
        twin.days(20);
        spoil(x);
        x.back();
        same(x, twin);
        due("the days go on as they would have", x.days(30), twin.days(30));
        same(x, twin);
    }

    /** Changes all that an image keeps. */
    static void spoil(PageLevels x) {
        x.days(30);
        x.mode(0, 2);
        x.mode(1, 1);
        x.tell(0, 5);
        x.tell(1, 6);
        x.seed(77);
        x.drop();
        x.drop();
        x.level(9, 8, 7);
        x.level(1, 2, 3);
        x.level(1, 2, 3);
        x.days(30);
    }

    static void same(PageLevels x, PageLevels twin) {
        for (int what = 0; what <= 11; what++) {
            due("status " + what, x.status(what), twin.status(what));
        }
        for (int level = 1; level <= 2; level++) {
            for (int what = 0; what <= 9; what++) {
                due("level " + level + " " + what, x.levelOf(level, what), twin.levelOf(level, what));
            }
            for (int i = 0; i < 18; i++) {
                int slot = i / 6;
                due("slot " + i, x.slot(level, slot, i % 6), twin.slot(level, slot, i % 6));
            }
        }
        for (int page = 0; page < 64; page++) {
            due("memory " + page, x.value(0, page), twin.value(0, page));
            due("often " + page, x.often(page), twin.often(page));
        }
        for (int i = 0; i < 20; i++) {
            due("past " + i, x.past(i, i % 4), twin.past(i, i % 4));
        }
        due("hand or draws", x.differ(0) ^ x.differ(1), twin.differ(0) ^ twin.differ(1));
    }

    @Says(promise = 41, words = "All is again as it was kept")
    static void backAgainAndAgain() {
        PageLevels x = with(2, 1, 3);
        x.write(1, 10);
        x.image();
        for (int i = 0; i < 3; i++) {
            x.write(1, 20 + i);
            x.write(2, 30);
            x.clear();
            due("back", x.back(), 1);
            due("the value", x.value(1, 1), 10);
            due("memory", x.value(0, 2), 0);
            due("turn", x.status(5), 1);
        }
        x.write(1, 11);
        due("a later image", x.image(), 1);
        x.write(1, 12);
        x.back();
        due("in place of the first", x.value(1, 1), 11);
    }

    @Says(promise = 41, words = "All is again as it was kept")
    static void backToTheRun() {
        PageLevels x = with(8, 1, 3);
        x.tell(0, 1);
        readAll(x, 5);
        x.image();
        readAll(x, 20);
        x.back();
        due("run", x.status(6), 1);
        readAll(x, 6);
        due("it goes on behind 5", x.status(6), 2);
        due("fetched", x.status(7), 1);
        x.clear();
        x.back();
        due("run, though it was swept out", x.status(6), 1);
        due("pages", x.pages(1), bits(5));
    }

    @Says(promise = 41, words = "All is again as it was kept")
    static void backToHandsAndDraws() {
        PageLevels x = with(2, 1, 7, 2, 1, 8);
        x.show(0, 1);
        x.show(1, 2);
        readAll(x, 1, 2, 3);
        int hand = x.says(0, 7);
        int drawn = x.says(1, 8);
        due("hand", hand, 1);
        due("drawn", drawn, 1);
        x.image();
        readAll(x, 4, 5, 6, 7);
        x.clear();
        x.back();
        due("hand", x.says(0, 7), 1);
        due("drawn", x.says(1, 8), 1);
    }

    @Says(promise = 41, words = "All is again as it was kept")
    static void backToNotes() {
        for (int kind = 3; kind <= 8; kind++) {
            PageLevels x = with(2, 1, kind);
            x.write(1, 10);
            readAll(x, 1, 1, 2);
            x.image();
            readAll(x, 2, 2, 2, 3, 4, 3);
            x.write(4, 40);
            x.clear();
            readAll(x, 7, 8);
            x.back();
            dueAll("1", what -> x.slot(1, 0, what), 1, 1, 0, 3, 3, 1);
            dueAll("2", what -> x.slot(1, 1, what), 2, 0, 1, 4, 1, 0);
            due("the value", x.value(1, 1), 10);
            dueAll("of the level", what -> x.levelOf(1, what), 2, 1, kind, 2, 1, 2, 2, 2, 0, 0);
        }
    }

    @Says(promise = 41, words = "All is again as it was kept")
    static void backToFewerLevels() {
        PageLevels x = with(2, 1, 3);
        x.image();
        x.level(3, 1, 7);
        x.write(1, 10);
        x.sweep(1);
        x.write(2, 20);
        due("back", x.back(), 1);
        due("levels", x.status(0), 1);
        due("nothing is held", x.pages(0), 0);
        due("none of that number", x.levelOf(2, 0), BAD);
        x.level(3, 1, 7);
        dueAll("the one behind it is new", what -> x.levelOf(2, what), 3, 1, 7, 0, 0, 0, 0, 0, 0, 0);
        due("nothing to sweep", x.sweep(2), 0);
        x.read(1);
        due("nor is it dirty", x.levelOf(2, 4), 0);
    }

    @Says(promise = 41, words = "(SHELVES with RULES hold those of LEVELS of the same numbers, or NOTHING)")
    static void backWithRules() {
        PageLevels x = with(2, 1, 3);
        x.image();
        x.drop();
        x.level(5, 1, 7);
        x.level(6, 1, 8);
        x.show(0, 1);
        x.show(1, 2);
        x.row(2, 1, 1);
        x.back();
        due("the same number", x.holds(0), 11);
        due("its rule", x.says(0, 0), 3);
        due("none of that number", x.holds(1), NONE);
        due("a row", x.holds(2), 1);
        due("how many", x.status(17), 2);
        x.drop();
        x.image();
        x.level(2, 1, 4);
        x.show(0, 1);
        x.back();
        due("no levels at all", x.holds(0), NONE);
        PageLevels y = with(2, 1, 3);
        y.show(0, 1);
        y.image();
        y.drop();
        y.back();
        due("a shelf that was emptied stays so", y.holds(0), NONE);
    }

    // ---- 42: status

    @Says(promise = 42, words = "NONE another what.")
    static void statusOfAnother() {
        for (int what : new int[] {-1, 18, 19, LOW, HIGH}) {
            changesNothing("what " + what, Checks::busy, NONE, x -> x.status(what));
        }
    }

    @Says(promise = 42, words = "LEVELS (0), MODE (1), WRITES (2), AHEAD (3), MEMORY's COST (4), TURN (5), RUN (6), FETCHED so "
            + "far (7), VALUES that went to MEMORY (8; WRITES THROUGH, too), all COST so far (9), THE TAPE's size (10), SEED "
            + "(11); 12 to 16: REFUSALS -52 to -56; 17 SHELVES that hold something.")
    static void statusOfEach() {
        PageLevels x = with(1, 1, 3, 2, 2, 3);
        x.mode(0, 2);
        x.mode(1, 1);
        x.tell(0, 3);
        x.tell(1, 40);
        x.write(7, 1);
        x.write(8, 2);
        x.read(8);
        feedAll(x, "rrrr");
        x.seed(-9);
        x.row(7, 0, 0);
        x.show(0, 2);
        x.read(64);
        x.read(64);
        x.set(0, 0, 0);
        x.set(1, 0, 0);
        x.set(1, 0, 0);
        x.set(1, 0, 0);
        x.back();
        due("full", fullLevels(x), 1);
        dueAll("status", x::status, 2, 2, 1, 3, 40, 3, 2, 3, 2, 43 + 43 + 1, 4, -9, 2, 1, 3, 1, 0, 2);
        for (int i = 0; i < 248; i++) {
            x.feed(1);
        }
        due("the tape", x.status(10), 250);
        due("full", x.status(16), 2);
    }

    static int fullLevels(PageLevels x) {
        return x.status(16) == 0 ? 1 : 0;
    }

    @Says(promise = 42, words = "VALUES that went to MEMORY (8; WRITES THROUGH, too)")
    static void statusToMemory() {
        PageLevels x = with(1, 1, 3, 2, 1, 3);
        x.write(1, 10);
        due("back: none yet", x.status(8), 0);
        x.sweep(1);
        due("to level 2", x.status(8), 0);
        x.sweep(2);
        due("by sweeping", x.status(8), 1);
        x.mode(1, 1);
        x.write(1, 10);
        due("through, though it is the same", x.status(8), 2);
        x.write(1, 11);
        due("through, a hit", x.status(8), 3);
    }

    @Says(promise = 42, words = "17 SHELVES that hold something")
    static void statusOfShelves() {
        PageLevels x = with(2, 1, 3);
        for (int s = 0; s < 8; s++) {
            if (s % 2 == 0) {
                x.row(s, 4, 0);
            } else {
                x.show(s, 1);
            }
            due("more", x.status(17), s + 1);
        }
        x.show(0, -1);
        due("one fewer", x.status(17), 7);
        x.drop();
        due("rows alone", x.status(17), 3);
    }
}
