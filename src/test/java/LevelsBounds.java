/** The edges of promises 12 to 26: LEVELS, how they hold together, READS, WRITES, what is where. */
final class LevelsBounds extends Checks {

    // ---- 12: level, 13: drop

    @Says(promise = 12, words = "(COST 0 to 99; KIND 3 to 8): its number.")
    static void levelLeastAndGreatest() {
        PageLevels x = new PageLevels();
        due("the least", x.level(1, 0, 3), 1);
        due("the greatest", x.level(16, 99, 8), 2);
        due("the third", x.level(1, 99, 4), 3);
        due("the fourth", x.level(16, 0, 7), 4);
        dueAll("of the second", what -> x.levelOf(2, what), 16, 99, 8, 0, 0, 0, 0, 0, 0, 0);
        dueAll("of the third", what -> x.levelOf(3, what), 1, 99, 4);
    }

    @Says(promise = 12, words = "BAD")
    static void levelBad() {
        badForEach("size", Checks::busy, (x, size) -> x.level(size, 1, 3), 0, 17, -1, LOW, HIGH);
        badForEach("cost", Checks::busy, (x, cost) -> x.level(1, cost, 3), -1, 100, LOW, HIGH);
        badForEach("kind", Checks::busy, (x, kind) -> x.level(1, 1, kind), 2, 9, -1, LOW, HIGH);
        refused("bad ahead of full", Checks::crowded, BAD, x -> x.level(0, 1, 3));
        refused("bad ahead of full", Checks::crowded, BAD, x -> x.level(1, 100, 3));
        refused("bad ahead of full", Checks::crowded, BAD, x -> x.level(1, 1, 9));
    }

    @Says(promise = 12, words = "FULL: 4.")
    static void levelFull() {
        refused("a fifth", Checks::crowded, FULL, x -> x.level(1, 0, 3));
        PageLevels x = crowded();
        x.drop();
        due("one less", x.level(1, 0, 3), 4);
    }

    @Says(promise = 12, words = "All are SWEPT OUT; then there is one LEVEL more, the farthest")
    static void levelSweepsOut() {
        PageLevels x = with(2, 1, 7);
        x.show(0, 1);
        readAll(x, 1, 2);
        x.write(3, 30);
        due("a hand", x.says(0, 7), 1);
        due("a run", x.status(6), 3);
        due("level", x.level(2, 5, 3), 2);
        due("held", x.pages(0), 0);
        due("memory", x.value(0, 3), 30);
        due("the hand", x.says(0, 7), 0);
        due("the run", x.status(6), 0);
        due("the farthest", x.write(9, 1), 56);
        due("a hit in the nearest", x.write(9, 1), 1);
    }

    @Says(promise = 13, words = "All are SWEPT OUT; then the farthest LEVEL is no more")
    static void dropToTheLast() {
        PageLevels x = crowded();
        for (int left = 3; left >= 0; left--) {
            x.write(20 + left, 7);
            due("drop", x.drop(), left);
            due("levels", x.status(0), left);
            due("held", x.pages(0), 0);
            due("memory", x.value(0, 20 + left), 7);
            due("run", x.status(6), 0);
            due("none of that number", x.levelOf(left + 1, 0), BAD);
        }
        due("memory alone", x.write(1, 1), 50);
    }

    @Says(promise = 13, words = "STUCK: there are none.")
    static void dropStuck() {
        refused("none", Checks::bare, STUCK, PageLevels::drop);
        PageLevels x = with(1, 1, 3);
        due("the only one", x.drop(), 0);
        due("none any more", x.drop(), STUCK);
    }

    @Says(promise = 13, words = "(a SHELF that held its RULE holds NOTHING)")
    static void dropForgetsRules() {
        PageLevels x = busy();
        x.show(7, 2);
        int full = x.status(17);
        x.drop();
        due("shelf 3", x.holds(3), NONE);
        due("shelf 7", x.holds(7), NONE);
        due("that of the other level", x.holds(2), 11);
        due("a row", x.holds(0), 2);
        due("two fewer", x.status(17), full - 2);
        x.level(1, 1, 3);
        due("a new level 2 isn't shown", x.says(3, 0), NOTHING);
    }

    @Says(promise = 12, words = "then there is one LEVEL more")
    static void levelBeginsAnew() {
        PageLevels x = with(1, 1, 8);
        readAll(x, 1, 2, 3, 3);
        x.write(3, 30);
        x.sweep(1);
        dueAll("of the one ahead", what -> x.levelOf(1, what), 1, 1, 8, 1, 0, 2, 3, 3, 1, 2);
        x.drop();
        x.level(2, 3, 8);
        x.show(0, 1);
        dueAll("what", what -> x.levelOf(1, what), 2, 3, 8, 0, 0, 0, 0, 0, 0, 0);
        due("it drew none", x.says(0, 8), 0);
        due("slot", x.slot(1, 1, 0), NONE);
    }

    // ---- 14: mode, 15: tell

    @Says(promise = 14, words = "MODE (what 0), WRITES (1) is v: what it was.")
    static void modeLeastAndGreatest() {
        PageLevels x = new PageLevels();
        due("to 2", x.mode(0, 2), 0);
        due("to 1", x.mode(0, 1), 2);
        due("to 0", x.mode(0, 0), 1);
        due("writes are another", x.mode(1, 1), 0);
        due("to 0", x.mode(1, 0), 1);
        due("as it was", x.mode(0, 0), 0);
    }

    @Says(promise = 14, words = "BAD.")
    static void modeBad() {
        badForEach("what", Checks::busy, (x, what) -> x.mode(what, 0), -1, 2, LOW, HIGH);
        badForEach("mode", Checks::busy, (x, v) -> x.mode(0, v), -1, 3, LOW, HIGH);
        badForEach("writes", Checks::busy, (x, v) -> x.mode(1, v), -1, 2, LOW, HIGH);
    }

    @Says(promise = 14, words = "All are SWEPT OUT")
    static void modeSweepsOut() {
        for (int what = 0; what <= 1; what++) {
            PageLevels x = with(2, 1, 3);
            x.write(3, 30);
            due("as it was", x.mode(what, 0), 0);
            due("swept out all the same", x.pages(0), 0);
            due("memory", x.value(0, 3), 30);
            due("run", x.status(6), 0);
        }
        PageLevels x = with(1, 1, 3, 4, 1, 3);
        x.write(3, 30);
        x.mode(1, 1);
        due("swept by writes as they were: by 2", x.levelOf(2, 8), 1);
    }

    @Says(promise = 15, words = "AHEAD (what 0; 0 to 8), MEMORY's COST (1; 0 to 999) is v: what it was.")
    static void tellLeastAndGreatest() {
        PageLevels x = busy();
        long held = x.pages(0);
        due("ahead", x.tell(0, 8), 2);
        due("ahead", x.tell(0, 0), 8);
        due("cost", x.tell(1, 999), 50);
        due("cost", x.tell(1, 0), 999);
        due("cost", x.status(4), 0);
        due("nothing is swept out", x.pages(0), held);
        due("nor the run", x.status(6), 1);
    }

    @Says(promise = 15, words = "BAD.")
    static void tellBad() {
        badForEach("what", Checks::busy, (x, what) -> x.tell(what, 0), -1, 2, LOW, HIGH);
        badForEach("ahead", Checks::busy, (x, v) -> x.tell(0, v), -1, 9, LOW, HIGH);
        badForEach("cost", Checks::busy, (x, v) -> x.tell(1, v), -1, 1000, LOW, HIGH);
    }

    // ---- 16: read, 17: write

    @Says(promise = 16, words = "BAD (that, too, might be a VALUE).")
    static void readBad() {
        badForEach("page", Checks::busy, PageLevels::read, -1, 64, LOW, HIGH);
        badForEach("page", Checks::bare, PageLevels::read, -1, 64);
        PageLevels x = with(1, 1, 3);
        x.write(5, BAD);
        due("a value", x.read(5), BAD);
        due("isn't refused", x.status(12), 0);
        due("it was read", x.often(5), 2);
    }

    @Says(promise = 16, words = "A READ: the VALUE.")
    static void readFirstAndLast() {
        PageLevels x = with(1, 1, 3, 2, 1, 3);
        x.write(0, 7);
        x.write(63, 8);
        due("from 2", x.read(0), 7);
        due("from 1", x.read(0), 7);
        readAll(x, 10, 11);
        due("from memory", x.read(63), 8);
    }

    @Says(promise = 17, words = "A WRITE: its COST.")
    static void writeFirstAndLast() {
        PageLevels x = with(1, 1, 3, 2, 5, 3);
        due("page 0", x.write(0, LOW), 56);
        due("page 63", x.write(63, HIGH), 56);
        due("from 2", x.write(0, 0), 6);
        due("from 1", x.write(0, BAD), 1);
        due("isn't refused", x.status(12), 0);
    }

    @Says(promise = 17, words = "BAD.")
    static void writeBad() {
        badForEach("page", Checks::busy, (x, page) -> x.write(page, 7), -1, 64, LOW, HIGH);
        badForEach("page", Checks::bare, (x, page) -> x.write(page, 7), -1, 64);
    }

    // ---- 18: sweep, 19: clear

    @Says(promise = 18, words = "SWEPT: how many were FLUSHED.")
    static void sweepNoneAndAll() {
        PageLevels x = with(16, 1, 3, 16, 1, 3);
        due("it holds nothing", x.sweep(1), 0);
        for (int page = 0; page < 16; page++) {
            x.write(page, page + 1);
        }
        due("none of 2 is dirty", x.sweep(2), 0);
        due("all of 1", x.sweep(1), 16);
        due("all of 2 then", x.levelOf(2, 4), 16);
        due("none of 1 again", x.sweep(1), 0);
        due("all of 2", x.sweep(2), 16);
        due("to memory", x.status(8), 16);
        due("run stays", x.status(6), 16);
    }

    @Says(promise = 18, words = "BAD: no such LEVEL.")
    static void sweepBad() {
        badForEach("level", Checks::busy, PageLevels::sweep, 0, 3, -1, LOW, HIGH);
        badForEach("level", Checks::crowded, PageLevels::sweep, 0, 5);
        due("the fourth", crowded().sweep(4), 1);
    }

    @Says(promise = 19, words = "All are SWEPT OUT: how many PAGES were in LEVELS (each once).")
    static void clearNoneAndAll() {
        PageLevels x = with(2, 1, 3, 16, 1, 3);
        due("none", x.clear(), 0);
        for (int page = 48; page < 64; page++) {
            x.read(page);
        }
        due("16, two of them in both", x.clear(), 16);
        due("none again", x.clear(), 0);
        PageLevels y = inMode(2, 16, 1, 3, 16, 1, 3, 16, 1, 3, 16, 1, 3);
        for (int page = 0; page < 64; page++) {
            y.write(page, page);
        }
        due("all", y.clear(), 64);
        due("each to memory once", y.status(8), 64);
        due("nothing is dirty", y.differ(1), 0);
    }

    // ---- 20: levelOf, 21: slot, 22: value

    @Says(promise = 20, words = "BAD.")
    static void levelOfBad() {
        badForEach("level", Checks::busy, (x, level) -> x.levelOf(level, 0), 0, 3, -1, LOW, HIGH);
        badForEach("level", Checks::crowded, (x, level) -> x.levelOf(level, 0), 0, 5);
        badForEach("what", Checks::busy, (x, what) -> x.levelOf(1, what), -1, 10, LOW, HIGH);
        due("the fourth", crowded().levelOf(4, 0), 3);
    }

    @Says(promise = 20, words = "how many it holds (3), DIRTY ones (4), HITS (5), MISSES (6), how many were PLACED (7), "
            + "FLUSHED from it (8), went OUT (9")
    static void levelOfCounts() {
        PageLevels x = with(2, 1, 3);
        dueAll("at first", what -> x.levelOf(1, what), 2, 1, 3, 0, 0, 0, 0, 0, 0, 0);
        x.write(1, 10);
        dueAll("one", what -> x.levelOf(1, what), 2, 1, 3, 1, 1, 0, 1, 1, 0, 0);
        x.write(2, 20);
        x.read(1);
        dueAll("full", what -> x.levelOf(1, what), 2, 1, 3, 2, 2, 1, 2, 2, 0, 0);
        x.read(3);
        dueAll("one out", what -> x.levelOf(1, what), 2, 1, 3, 2, 1, 1, 3, 3, 1, 1);
        x.clear();
        dueAll("swept out", what -> x.levelOf(1, what), 2, 1, 3, 0, 0, 1, 3, 3, 2, 1);
    }

    @Says(promise = 20, words = "by INCLUSIVE also what goes out of it since a farther LEVEL lets it go")
    static void levelOfOutByInclusive() {
        PageLevels x = inMode(1, 4, 1, 3, 2, 1, 3);
        readAll(x, 1, 2, 3);
        due("out of 1, though it isn't full", x.levelOf(1, 9), 1);
        due("out of 2", x.levelOf(2, 9), 1);
        PageLevels y = inMode(0, 4, 1, 3, 2, 1, 3);
        readAll(y, 1, 2, 3);
        due("not by free", y.levelOf(1, 9), 0);
        PageLevels z = inMode(1, 1, 1, 3, 2, 1, 3);
        readAll(z, 1, 2, 3);
        due("what isn't there any more doesn't go again", z.levelOf(1, 9), 2);
    }

    @Says(promise = 20, words = "how many it holds (3), DIRTY ones (4)")
    static void levelOfWhatIsFree() {
        PageLevels x = inMode(1, 4, 1, 3, 2, 1, 3);
        x.tell(0, 2);
        x.write(1, 10);
        x.write(2, 20);
        due("what was fetched drove both out", x.pages(2), bits(3, 4));
        dueAll("1 holds nothing", what -> x.levelOf(1, what), 4, 1, 3, 0, 0);
        due("nothing to sweep", x.sweep(1), 0);
        PageLevels y = inMode(2, 3, 1, 3, 4, 1, 3);
        y.tell(0, 2);
        readAll(y, 1, 2);
        y.write(3, 30);
        due("3 left its slot, nothing came there", y.slot(2, 0, 0), NONE);
        dueAll("none is dirty in 2", what -> y.levelOf(2, what), 4, 1, 3, 1, 0);
        dueAll("one in 1", what -> y.levelOf(1, what), 3, 1, 3, 3, 1);
    }

    @Says(promise = 21, words = "PAGE (what 0; NONE: nothing), DIRTY (1; 1, 0), SINCE (2), LAST (3), TIMES (4), USED (5; "
            + "1, 0); of 1 to 5 NONE: nothing.")
    static void slotOfNothing() {
        for (int what = 0; what <= 5; what++) {
            int one = what;
            changesNothing("nothing", () -> with(16, 1, 3), NONE, x -> x.slot(1, 0, one));
            changesNothing("nothing", () -> with(16, 1, 3), NONE, x -> x.slot(1, 15, one));
        }
        PageLevels x = with(2, 1, 3);
        x.write(0, 5);
        dueAll("page 0 isn't nothing", what -> x.slot(1, 0, what), 0, 1, 0, 1, 1, 0);
        x.read(0);
        dueAll("used", what -> x.slot(1, 0, what), 0, 1, 0, 2, 2, 1);
        x.clear();
        dueAll("swept out", what -> x.slot(1, 0, what), -1, -1, -1, -1, -1, -1);
    }

    @Says(promise = 21, words = "(NONE isn't refused.)")
    static void slotNoneUnrefused() {
        PageLevels x = with(2, 1, 3);
        for (int what = 0; what <= 5; what++) {
            x.slot(1, 1, what);
        }
        due("refused", x.status(12), 0);
    }

    @Says(promise = 21, words = "BAD.")
    static void slotBad() {
        badForEach("level", Checks::busy, (x, level) -> x.slot(level, 0, 0), 0, 3, -1, LOW, HIGH);
        badForEach("slot of 1", Checks::busy, (x, slot) -> x.slot(1, slot, 0), -1, 2, LOW, HIGH);
        badForEach("slot of 2", Checks::busy, (x, slot) -> x.slot(2, slot, 0), -1, 3, 16);
        badForEach("slot of 16", () -> with(16, 1, 3), (x, slot) -> x.slot(1, slot, 0), -1, 16);
        badForEach("what", Checks::busy, (x, what) -> x.slot(1, 0, what), -1, 6, LOW, HIGH);
        badForEach("what of nothing", () -> with(1, 1, 3), (x, what) -> x.slot(1, 0, what), -1, 6);
    }

    @Says(promise = 22, words = "VALUE of a PAGE in a LEVEL (level 0: MEMORY).")
    static void valueFirstAndLast() {
        PageLevels x = with(1, 1, 3, 1, 1, 3, 1, 1, 3, 2, 1, 3);
        x.write(0, 7);
        x.write(63, 8);
        dueAll("page 63", level -> x.value(level, 63), 0, 8, 0, 0, 0);
        due("page 0 in 4", x.value(4, 0), 7);
        due("page 0 in memory", x.value(0, 0), 0);
    }

    @Says(promise = 22, words = "BAD")
    static void valueBad() {
        badForEach("level", Checks::busy, (x, level) -> x.value(level, 1), -1, 3, LOW, HIGH);
        badForEach("level", Checks::crowded, (x, level) -> x.value(level, 1), -1, 5);
        badForEach("page in memory", Checks::busy, (x, page) -> x.value(0, page), -1, 64, LOW, HIGH);
        badForEach("page in 1", Checks::busy, (x, page) -> x.value(1, page), -1, 64, LOW, HIGH);
        badForEach("level, without levels", Checks::bare, (x, level) -> x.value(level, 1), -1, 1);
    }

    @Says(promise = 22, words = "STUCK: it hasn't it. (Those, too, might be VALUES.)")
    static void valueStuck() {
        refused("it hasn't it", Checks::busy, STUCK, x -> x.value(1, 40));
        refused("page 0", Checks::busy, STUCK, x -> x.value(2, 0));
        refused("page 63", Checks::busy, STUCK, x -> x.value(1, 63));
        PageLevels x = with(1, 1, 3);
        x.write(5, STUCK);
        due("a value", x.value(1, 5), STUCK);
        x.write(5, BAD);
        due("a value", x.value(1, 5), BAD);
        due("isn't refused", x.status(12) + x.status(15), 0);
        due("memory always has it", x.value(0, 6), 0);
    }

    // ---- 23: where, 24: pages, 25: differ, 26: kept

    @Says(promise = 23, words = "LEVELS (bits, LEVEL 1 the lowest) that have a PAGE.")
    static void whereEach() {
        PageLevels x = with(1, 1, 3, 2, 1, 3, 3, 1, 3, 4, 1, 3);
        readAll(x, 0, 5, 6, 63, 7);
        dueAll("page", page -> x.where(new int[] {7, 63, 6, 5, 0}[page]), 15, 14, 12, 8, 0);
        due("none", x.where(1), 0);
    }

    @Says(promise = 23, words = "BAD.")
    static void whereBad() {
        badForEach("page", Checks::busy, PageLevels::where, -1, 64, LOW, HIGH);
    }

    @Says(promise = 24, words = "PAGES (bits) of a LEVEL (level 0: those in any LEVEL).")
    static void pagesEach() {
        PageLevels x = inMode(2, 1, 1, 3, 1, 1, 3, 1, 1, 3, 1, 1, 3);
        due("none", x.pages(0), 0);
        readAll(x, 0, 31, 32, 63);
        dueAll("level", level -> x.pages(level), bits(0, 31, 32, 63), 1L << 63, 1L << 32, 1L << 31, 1);
    }

    @Says(promise = 24, words = "Refused: the number less 9,000,000,000,000,000,000. BAD.")
    static void pagesBad() {
        for (int level : new int[] {-1, 3, LOW, HIGH}) {
            refused("level " + level, Checks::busy, -9000000000000000052L, BAD, x -> x.pages(level));
        }
        refused("a fifth", Checks::crowded, -9000000000000000052L, BAD, x -> x.pages(5));
        refused("without levels", Checks::bare, -9000000000000000052L, BAD, x -> x.pages(1));
        due("the fourth", crowded().pages(4), bits(1, 5, 7));
    }

    @Says(promise = 25, words = "PAGES (bits) whose VALUE in the nearest LEVEL isn't that of MEMORY (what 0)")
    static void differFromMemory() {
        PageLevels x = with(2, 1, 3, 3, 1, 3);
        x.write(63, 5);
        x.write(0, 0);
        due("a value that is the same doesn't differ", x.differ(0), bits(63));
        x.sweep(1);
        due("in 2, too", x.differ(0), bits(63));
        x.write(63, 0);
        due("the nearest has memory's, 2 has another", x.differ(0), 0);
        PageLevels y = with(1, 1, 3, 3, 1, 3);
        y.write(4, 9);
        readAll(y, 5);
        due("the nearest is 2", y.differ(0), bits(4));
    }

    @Says(promise = 25, words = "that are DIRTY somewhere (1), in more than one LEVEL (2).")
    static void differDirtyAndSeveral() {
        PageLevels x = with(1, 1, 3, 2, 1, 3);
        due("none", x.differ(1) | x.differ(2), 0);
        x.write(63, 0);
        due("dirty in 1, the same value", x.differ(1), bits(63));
        due("in both", x.differ(2), bits(63));
        readAll(x, 0);
        due("dirty in 2", x.differ(1), bits(63));
        due("in both", x.differ(2), bits(0));
        x.sweep(2);
        due("not dirty", x.differ(1), 0);
        PageLevels one = with(4, 1, 3);
        readAll(one, 1, 2);
        due("one level alone", one.differ(2), 0);
    }

    @Says(promise = 25, words = "Refused likewise. BAD.")
    static void differBad() {
        for (int what : new int[] {-1, 3, LOW, HIGH}) {
            refused("what " + what, Checks::busy, -9000000000000000052L, BAD, x -> x.differ(what));
        }
    }

    @Says(promise = 26, words = "FREE 1")
    static void keptByFree() {
        PageLevels x = with(2, 1, 3, 1, 1, 3);
        readAll(x, 1, 2);
        due("1 has what 2 hasn't", x.pages(1) & ~x.pages(2), bits(1));
        due("kept", x.kept(), 1);
        due("in both", x.differ(2), bits(2));
        due("kept", x.kept(), 1);
    }

    @Says(promise = 26, words = "INCLUSIVE: all that a LEVEL has the next one has, too (1, 0)")
    static void keptByInclusive() {
        for (int kind = 3; kind <= 8; kind++) {
            PageLevels x = inMode(1, 4, 1, kind, 3, 1, kind, 2, 1, kind);
            x.tell(0, 3);
            due("empty", x.kept(), 1);
            for (int day = 0; day < 60; day++) {
                x.days(1);
                due("kept", x.kept(), 1);
                due("1 in 2, 2 in 3", x.pages(1) & ~x.pages(2) | x.pages(2) & ~x.pages(3), 0);
            }
        }
    }

    @Says(promise = 26, words = "EXCLUSIVE: no PAGE in two (1, 0).")
    static void keptByExclusive() {
        for (int kind = 3; kind <= 8; kind++) {
            PageLevels x = inMode(2, 1, 1, kind, 3, 1, kind, 2, 1, kind);
            x.tell(0, 3);
            due("empty", x.kept(), 1);
            for (int day = 0; day < 60; day++) {
                x.days(1);
                due("kept", x.kept(), 1);
                due("in two", x.differ(2), 0);
            }
        }
    }
}
