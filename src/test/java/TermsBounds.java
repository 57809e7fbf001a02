/** The edges that the document's Terms name: what LEVELS and RULES are, READS and WRITES, what is kept of them. */
final class TermsBounds extends Checks {

    // ---- PAGES, MEMORY, LEVELS

    @Says(promise = 0, words = "PAGES 0 to 63")
    static void firstAndLastPage() {
        PageLevels x = with(2, 1, 4);
        due("write 0", x.write(0, 5), 51);
        due("write 63", x.write(63, 6), 51);
        due("read 0", x.read(0), 5);
        due("read 63", x.read(63), 6);
        due("pages, the highest bit too", x.pages(1), Long.MIN_VALUE + 1);
        x.clear();
        due("0 in memory", x.value(0, 0), 5);
        due("63 in memory", x.value(0, 63), 6);
        due("0 from memory", x.read(0), 5);
        due("63 from memory", x.read(63), 6);
        due("no page below", x.read(-1), BAD);
        due("no page above", x.read(64), BAD);
    }

    @Says(promise = 0, words = "MEMORY has a VALUE (int; 0 at first) of each")
    static void valuesAreInts() {
        for (int v : new int[] {LOW, HIGH, -1, 0, BAD}) {
            PageLevels x = with(2, 1, 4);
            due("at first", x.read(7), 0);
            x.write(7, v);
            due("in the level", x.value(1, 7), v);
            due("read", x.read(7), v);
            x.clear();
            due("in memory", x.value(0, 7), v);
            due("read from memory", x.read(7), v);
        }
    }

    @Says(promise = 0, words = "MEMORY's COST: 50 at first")
    static void costOfMemoryAtFirst() {
        PageLevels x = new PageLevels();
        due("told", x.status(4), 50);
        due("paid", x.write(0, 0), 50);
    }

    @Says(promise = 0, words = "LEVELS 1 on (1 the nearest), 4 at most")
    static void fourLevels() {
        PageLevels x = with(1, 1, 3, 1, 2, 3, 1, 4, 3, 1, 8, 3);
        due("all four are looked at", x.write(9, 1), 65);
        due("all four have it", x.where(9), 15);
        due("a fifth", x.level(1, 16, 3), FULL);
        due("four still", x.status(0), 4);
        due("1 is the nearest", x.write(9, 1), 1);
    }

    @Says(promise = 0, words = "each has a SIZE (1 to 16 SLOTS, 0 on)")
    static void leastSize() {
        PageLevels x = with(1, 1, 3);
        readAll(x, 5, 6);
        due("one page", x.pages(1), bits(6));
        due("slot 0", x.slot(1, 0, 0), 6);
        due("no slot 1", x.slot(1, 1, 0), BAD);
    }

    @Says(promise = 0, words = "each has a SIZE (1 to 16 SLOTS, 0 on)")
    static void greatestSize() {
        PageLevels x = with(16, 1, 3);
        for (int page = 0; page < 16; page++) {
            x.read(page);
        }
        due("sixteen pages", x.pages(1), 0xFFFF);
        due("none went out", x.levelOf(1, 9), 0);
        due("slot 15", x.slot(1, 15, 0), 15);
        due("no slot 16", x.slot(1, 16, 0), BAD);
        x.read(16);
        due("the 17th drives one out", x.pages(1), 0x1FFFE);
        due("from slot 0", x.slot(1, 0, 0), 16);
    }

    @Says(promise = 0, words = "0 FREE (at first)")
    static void modeAtFirst() {
        PageLevels x = with(2, 1, 3, 1, 1, 3);
        readAll(x, 1, 2);
        due("told", x.status(1), 0);
        due("what leaves 2 may stay in 1", x.where(1), 1);
    }

    @Says(promise = 0, words = "WRITES: 0 BACK (at first)")
    static void writesAtFirst() {
        PageLevels x = with(2, 1, 3);
        x.write(1, 7);
        due("told", x.status(2), 0);
        due("memory doesn't have it", x.value(0, 1), 0);
    }

    @Says(promise = 0, words = "AHEAD (0 at first)")
    static void aheadAtFirst() {
        PageLevels x = with(8, 1, 3);
        readAll(x, 1, 2, 3);
        due("told", x.status(3), 0);
        due("none is fetched", x.pages(1), bits(1, 2, 3));
    }

    @Says(promise = 0, words = "(no LEVEL's is of KIND 0, 1, 2 itself)")
    static void kindsOfNoLevel() {
        badForEach("level of kind", Checks::busy, (x, kind) -> x.level(1, 1, kind), 0, 1, 2);
    }

    // ---- VICTIMS

    @Says(promise = 0, words = "FIRST: the least SINCE.")
    static void firstGoesThoughTouched() {
        PageLevels x = with(3, 1, 3);
        readAll(x, 1, 2, 3, 1, 1, 4);
        due("1 went", x.pages(1), bits(2, 3, 4));
        readAll(x, 5);
        due("then 2", x.pages(1), bits(3, 4, 5));
    }

    @Says(promise = 0, words = "LATE: the least LAST.")
    static void lateGoes() {
        PageLevels x = with(3, 1, 4);
        readAll(x, 1, 2, 3, 1, 4);
        due("2 went", x.pages(1), bits(1, 3, 4));
        x.write(3, 9);
        readAll(x, 5);
        due("a write touches, too", x.pages(1), bits(3, 4, 5));
    }

    @Says(promise = 0, words = "LATEST: the greatest LAST.")
    static void latestGoes() {
        PageLevels x = with(3, 1, 5);
        readAll(x, 1, 2, 3, 1, 4);
        due("1 went", x.pages(1), bits(2, 3, 4));
        readAll(x, 5);
        due("then 4", x.pages(1), bits(2, 3, 5));
    }

    @Says(promise = 0, words = "RAREST: the least TIMES, of several the least LAST.")
    static void rarestGoes() {
        PageLevels x = with(3, 1, 6);
        readAll(x, 1, 2, 3, 1, 2, 3, 1, 4);
        due("of 2 and 3 the one touched longer ago", x.pages(1), bits(1, 3, 4));
        PageLevels y = with(2, 1, 6);
        readAll(y, 1, 2, 2, 1, 3);
        due("the least last, not the least slot", y.pages(1), bits(1, 3));
        PageLevels z = with(2, 1, 6);
        readAll(z, 1, 1, 2, 1, 3);
        due("the least times, though its last is later than none", z.pages(1), bits(1, 3));
        PageLevels w = with(2, 1, 6);
        readAll(w, 1, 1, 2, 3);
        due("the least times, though its last is the greatest", w.pages(1), bits(1, 3));
    }

    /** Slots 1 to 3 hold pages of one LAST and of TIMES 1, as they were fetched at once. */
    static PageLevels withTies(int kind) {
        PageLevels x = with(4, 1, kind);
        x.tell(0, 2);
        readAll(x, 10, 11);
        due("slots 1 to 3 have one last", x.slot(1, 3, 3) - x.slot(1, 1, 3), 0);
        return x;
    }

    @Says(promise = 0, words = "(Of several the least SLOT.)")
    static void leastSlotOfLate() {
        PageLevels x = withTies(4);
        readAll(x, 10, 40);
        due("slot 1 of three", x.slot(1, 1, 0), 40);
    }

    @Says(promise = 0, words = "(Of several the least SLOT.)")
    static void leastSlotOfLatest() {
        PageLevels x = withTies(5);
        readAll(x, 40);
        due("slot 1 of three", x.slot(1, 1, 0), 40);
    }

    @Says(promise = 0, words = "(Of several the least SLOT.)")
    static void leastSlotOfRarest() {
        PageLevels x = withTies(6);
        readAll(x, 10, 40);
        due("slot 1 of three", x.slot(1, 1, 0), 40);
    }

    // ---- CLOCK and DRAWN

    @Says(promise = 0, words = "CLOCK: from its HAND (a SLOT; 0 at first) on, round about: the first that isn't USED")
    static void clockFromItsHand() {
        PageLevels x = with(3, 1, 7);
        readAll(x, 1, 2, 3, 4);
        due("at first from 0", x.slot(1, 0, 0), 4);
        readAll(x, 2, 5);
        due("2 is used, so 3 goes", x.slot(1, 2, 0), 5);
        readAll(x, 5, 6);
        due("from 0 again", x.slot(1, 0, 0), 6);
        readAll(x, 2, 5, 7);
        due("from 1, past 1 and 2, round about: 0", x.slot(1, 0, 0), 7);
    }

    @Says(promise = 0, words = "those gone by aren't USED any more")
    static void clockGoneBy() {
        PageLevels x = with(3, 1, 7);
        readAll(x, 1, 2, 3, 1, 3, 4);
        dueAll("used of slot", slot -> x.slot(1, slot, 5), 0, 0, 1);
        due("4 in slot 1", x.slot(1, 1, 0), 4);
    }

    @Says(promise = 0, words = "round about: the first that isn't USED; those gone by aren't USED any more")
    static void clockAllUsed() {
        PageLevels x = with(3, 1, 7);
        readAll(x, 1, 2, 3, 4, 2, 3, 4, 5);
        due("gone round, the one at the hand goes", x.slot(1, 1, 0), 5);
        dueAll("used of slot", slot -> x.slot(1, slot, 5), 0, 0, 0);
        x.show(0, 1);
        due("hand", x.says(0, 7), 2);
    }

    @Says(promise = 0, words = "HAND is the SLOT behind the VICTIM")
    static void clockHandWraps() {
        PageLevels x = with(2, 1, 7);
        x.show(0, 1);
        readAll(x, 1, 2);
        due("no victim yet", x.says(0, 7), 0);
        readAll(x, 3);
        due("behind slot 0", x.says(0, 7), 1);
        readAll(x, 4);
        due("behind the last slot", x.says(0, 7), 0);
        PageLevels one = with(1, 1, 7);
        one.show(0, 1);
        readAll(one, 1, 1, 2);
        due("of one slot", one.says(0, 7), 0);
        due("it went, though used", one.pages(1), bits(2));
    }

    @Says(promise = 0, words = "DRAWN: the SLOT of a DRAW below its SIZE.")
    static void drawnSlot() {
        for (int seed : new int[] {1, -7, HIGH, LOW, 0, 12345}) {
            PageLevels x = with(5, 1, 8);
            readAll(x, 1, 2, 3, 4, 5);
            x.seed(seed);
            readAll(x, 6);
            int next = nextSeed(seed);
            due("one draw", x.status(11), next);
            due("slot of " + seed, x.slot(1, drawn(next, 5), 0), 6);
        }
    }

    @Says(promise = 0, words = "DRAWN: the SLOT of a DRAW below its SIZE.")
    static void drawnOfOneSlot() {
        PageLevels x = with(1, 1, 8);
        readAll(x, 1);
        due("no draw for a free slot", x.status(11), 1);
        readAll(x, 2);
        due("a draw though there is one slot", x.status(11), nextSeed(1));
        due("it went", x.pages(1), bits(2));
    }

    // ---- PLACED, TOUCHED, FLUSHED, OUT

    @Says(promise = 0, words = "TURN: how many READS and WRITES were (0 at first; this one, too).")
    static void turnsFromOne() {
        PageLevels x = with(4, 1, 3);
        due("at first", x.status(5), 0);
        readAll(x, 1);
        due("this one, too", x.slot(1, 0, 3), 1);
        x.write(2, 1);
        due("a write, too", x.slot(1, 1, 3), 2);
        x.read(64);
        due("not a refused one", x.status(5), 2);
    }

    @Says(promise = 0, words = "if no SLOT is free, the VICTIM goes OUT")
    static void noVictimWhileOneIsFree() {
        for (int kind = 3; kind <= 8; kind++) {
            PageLevels x = with(3, 1, kind);
            readAll(x, 1, 2, 3, 1);
            due("none out of " + kind, x.levelOf(1, 9), 0);
            due("full", x.levelOf(1, 3), 3);
            readAll(x, 4);
            due("one out of " + kind, x.levelOf(1, 9), 1);
            due("full", x.levelOf(1, 3), 3);
        }
    }

    @Says(promise = 0, words = "the first SLOT that is free holds it")
    static void firstFreeSlot() {
        PageLevels x = inMode(1, 4, 1, 3, 3, 2, 3);
        readAll(x, 1, 2, 3, 4);
        due("1 left both, 4 in its slot, not in the last", x.slot(1, 0, 0), 4);
        due("the last is still free", x.slot(1, 3, 0), NONE);
        PageLevels y = inMode(2, 1, 1, 3, 3, 2, 3);
        readAll(y, 1, 2, 3, 4, 2);
        dueAll("4 where 2 was", slot -> y.slot(2, slot, 0), 1, 4, 3);
    }

    @Says(promise = 0, words = "SINCE how many were PLACED in all LEVELS ahead of it")
    static void sinceFromZero() {
        PageLevels x = with(2, 1, 3, 2, 2, 3);
        readAll(x, 8);
        due("the first of all", x.slot(2, 0, 2), 0);
        due("the second", x.slot(1, 0, 2), 1);
        x.clear();
        readAll(x, 9);
        due("clearing doesn't begin anew", x.slot(2, 0, 2), 2);
    }

    @Says(promise = 0, words = "LAST the TURN, TIMES 1, not USED. TOUCHED: LAST the TURN, TIMES 1 more, USED.")
    static void notesOfPlacedAndTouched() {
        PageLevels x = with(1, 1, 3, 2, 2, 3);
        readAll(x, 1);
        dueAll("placed in 2", what -> x.slot(2, 0, what), 1, 0, 0, 1, 1, 0);
        readAll(x, 1);
        dueAll("touched in 1", what -> x.slot(1, 0, what), 1, 0, 1, 2, 2, 1);
        dueAll("not touched in 2", what -> x.slot(2, 0, what), 1, 0, 0, 1, 1, 0);
        readAll(x, 2, 1);
        dueAll("touched in 2", what -> x.slot(2, 0, what), 1, 0, 0, 4, 2, 1);
        dueAll("placed in 1 anew", what -> x.slot(1, 0, what), 1, 0, 4, 4, 1, 0);
    }

    @Says(promise = 0, words = "the VALUE goes to the next LEVEL below (farther) that has the PAGE, which is DIRTY then")
    static void flushedPastOneWithoutIt() {
        PageLevels x = with(4, 1, 3, 1, 1, 3, 4, 1, 3);
        x.write(5, 7);
        readAll(x, 6);
        due("2 hasn't it", x.where(5), 5);
        due("sweep 1", x.sweep(1), 1);
        due("3 has the value", x.value(3, 5), 7);
        due("dirty there", x.slot(3, 0, 1), 1);
        due("not memory", x.value(0, 5), 0);
    }

    @Says(promise = 0, words = "if there is none, to MEMORY")
    static void flushedToMemory() {
        PageLevels x = with(4, 1, 3, 1, 1, 3);
        x.write(5, 7);
        readAll(x, 6);
        due("sweep 1", x.sweep(1), 1);
        due("memory", x.value(0, 5), 7);
        due("one went there", x.status(8), 1);
        due("not dirty", x.differ(1), 0);
    }

    @Says(promise = 0, words = "FREE: it is FLUSHED, if DIRTY.")
    static void outByFree() {
        PageLevels x = with(1, 1, 3);
        readAll(x, 1, 2);
        due("a clean one isn't", x.levelOf(1, 8), 0);
        due("nothing to memory", x.status(8), 0);
        x.write(2, 9);
        readAll(x, 3);
        due("a dirty one is", x.levelOf(1, 8), 1);
        due("memory", x.value(0, 2), 9);
    }

    @Says(promise = 0, words = "it goes out of each nearer LEVEL that has it")
    static void outByInclusive() {
        PageLevels x = inMode(1, 4, 1, 3, 4, 2, 3, 2, 3, 3);
        readAll(x, 1, 2, 3);
        due("out of all three", x.where(1), 0);
        dueAll("out", level -> x.levelOf(level + 1, 9), 1, 1, 1);
        PageLevels y = inMode(1, 1, 1, 3, 4, 2, 3, 2, 3, 3);
        readAll(y, 1, 2, 3);
        dueAll("out of those that have it", level -> y.levelOf(level + 1, 9), 2, 1, 1);
        PageLevels z = inMode(1, 1, 1, 3, 4, 2, 3);
        readAll(z, 1, 2);
        due("farther ones keep it", z.where(1), 2);
    }

    @Says(promise = 0, words = "the VALUE of the nearest DIRTY one of all these (itself last) is FLUSHED from here, once")
    static void nearestDirtyOfInclusive() {
        PageLevels x = inMode(1, 2, 1, 3, 2, 2, 3, 1, 3, 3);
        x.write(1, 10);
        x.sweep(1);
        x.sweep(2);
        x.write(1, 11);
        x.sweep(1);
        x.write(1, 12);
        due("dirty in all three", x.slot(1, 0, 1) + x.slot(2, 0, 1) + x.slot(3, 0, 1), 3);
        readAll(x, 2);
        due("the nearest", x.value(0, 1), 12);
        due("once", x.status(8), 1);
        dueAll("flushed from 3, besides the sweeps", level -> x.levelOf(level + 1, 8), 2, 1, 1);
    }

    @Says(promise = 0, words = "(itself last)")
    static void itselfLastOfInclusive() {
        PageLevels x = inMode(1, 2, 1, 3, 1, 3, 3);
        x.write(1, 10);
        x.sweep(1);
        readAll(x, 2);
        due("its own", x.value(0, 1), 10);
        due("flushed from 2", x.levelOf(2, 8), 1);
        PageLevels y = inMode(1, 2, 1, 3, 1, 3, 3);
        y.write(1, 10);
        y.sweep(1);
        y.write(1, 11);
        readAll(y, 2);
        due("not its own", y.value(0, 1), 11);
    }

    @Says(promise = 0, words = "once, if there is one")
    static void cleanOneOfInclusive() {
        PageLevels x = inMode(1, 2, 1, 3, 1, 3, 3);
        readAll(x, 1, 2);
        due("none is flushed", x.levelOf(1, 8) + x.levelOf(2, 8), 0);
        due("nothing to memory", x.status(8), 0);
    }

    @Says(promise = 0, words = "EXCLUSIVE: it is PLACED into the next LEVEL, DIRTY as it is")
    static void outByExclusive() {
        PageLevels x = inMode(2, 1, 1, 3, 2, 2, 3);
        x.write(1, 10);
        readAll(x, 2, 3);
        dueAll("1 in 2, dirty", what -> x.slot(2, 0, what), 1, 1, 1, 2, 1, 0);
        dueAll("2 in 2, clean", what -> x.slot(2, 1, what), 2, 0, 3, 3, 1, 0);
        due("not flushed", x.levelOf(1, 8) + x.levelOf(2, 8), 0);
    }

    @Says(promise = 0, words = "from the last one it is FLUSHED, if DIRTY")
    static void outOfTheLastByExclusive() {
        PageLevels x = inMode(2, 1, 1, 3, 1, 2, 3);
        readAll(x, 1);
        x.write(2, 20);
        readAll(x, 3);
        due("a clean one isn't", x.levelOf(2, 8), 0);
        due("but out", x.levelOf(2, 9), 1);
        readAll(x, 4);
        due("a dirty one is", x.levelOf(2, 8), 1);
        due("memory", x.value(0, 2), 20);
        PageLevels y = inMode(2, 1, 1, 3);
        y.write(2, 20);
        readAll(y, 3);
        due("one level is the last one", y.value(0, 2), 20);
    }

    // ---- READS AND WRITES

    @Says(promise = 0, words = "LEVELS are LOOKED at from 1 on, till one has it (a HIT there; each other one LOOKED at: a MISS)")
    static void lookedAt() {
        PageLevels x = with(1, 1, 3, 2, 2, 3, 3, 4, 3);
        readAll(x, 1);
        dueAll("memory: a miss in each", level -> x.levelOf(level + 1, 6), 1, 1, 1);
        readAll(x, 1);
        dueAll("1: a hit in 1 alone", level -> x.levelOf(level + 1, 5), 1, 0, 0);
        dueAll("1: no misses", level -> x.levelOf(level + 1, 6), 1, 1, 1);
        readAll(x, 2, 1);
        dueAll("2: a hit in 2 alone", level -> x.levelOf(level + 1, 5), 1, 1, 0);
        dueAll("2: a miss in 1 alone", level -> x.levelOf(level + 1, 6), 3, 2, 2);
    }

    @Says(promise = 0, words = "COST: of all LOOKED at, MEMORY too.")
    static void costOfLooking() {
        PageLevels x = with(1, 1, 3, 2, 10, 3, 3, 99, 3);
        x.tell(1, 999);
        due("memory", x.write(1, 0), 1109);
        due("1", x.write(1, 0), 1);
        readAll(x, 2);
        due("2", x.write(1, 0), 11);
        readAll(x, 3, 4);
        due("3", x.write(2, 0), 110);
        PageLevels none = with(1, 0, 3);
        none.tell(1, 0);
        due("nothing costs", none.write(1, 0), 0);
    }

    @Says(promise = 0, words = "Then, if that isn't LEVEL 1")
    static void hitInLevelOne() {
        for (int mode = 0; mode <= 2; mode++) {
            PageLevels x = inMode(mode, 2, 1, 3, 2, 1, 3);
            readAll(x, 1);
            int placed = x.levelOf(1, 7);
            readAll(x, 1);
            due("nothing is placed", x.levelOf(1, 7), placed);
            due("it stays", x.slot(1, 0, 0), 1);
            due("touched", x.slot(1, 0, 4), 2);
        }
    }

    @Says(promise = 0, words = "it is PLACED into those ahead of that one, from the farthest to 1, not DIRTY")
    static void placedIntoThoseAhead() {
        PageLevels x = with(1, 1, 3, 2, 1, 3, 3, 1, 3);
        x.write(1, 10);
        readAll(x, 2, 3);
        due("1 in 3 alone", x.where(1), 4);
        due("dirty there", x.slot(3, 0, 1), 1);
        due("its value", x.read(1), 10);
        due("2 ahead of 1", x.slot(1, 0, 2) - x.slot(2, 1, 2), 1);
        dueAll("not dirty in 1", what -> x.slot(1, 0, what), 1, 0);
        dueAll("not dirty in 2", what -> x.slot(2, 1, what), 1, 0);
        due("dirty in 3 still", x.slot(3, 0, 1), 1);
        due("not placed in 3", x.levelOf(3, 7), 3);
    }

    @Says(promise = 0, words = "EXCLUSIVE: it leaves its SLOT, and is PLACED into LEVEL 1, DIRTY as it was.")
    static void leavesItsSlot() {
        PageLevels x = inMode(2, 1, 1, 3, 2, 2, 3);
        x.write(1, 10);
        readAll(x, 2, 3);
        due("a dirty one", x.read(1), 10);
        due("in 1 alone", x.where(1), 1);
        due("dirty", x.slot(1, 0, 1), 1);
        due("the one that went out of 1 in its slot", x.slot(2, 0, 0), 3);
        due("not out of 2", x.levelOf(2, 9), 0);
        due("a hit there", x.levelOf(2, 5), 1);
        readAll(x, 2);
        due("a clean one", x.slot(1, 0, 1), 0);
        due("the dirty one, handed on", x.differ(1), bits(1));
    }

    @Says(promise = 0, words = "is PLACED into LEVEL 1, DIRTY as it was.")
    static void fromMemoryByExclusive() {
        PageLevels x = inMode(2, 2, 1, 3, 2, 2, 3, 2, 3, 3);
        readAll(x, 1);
        due("in 1 alone", x.where(1), 1);
        due("not dirty", x.slot(1, 0, 1), 0);
        dueAll("placed", level -> x.levelOf(level + 1, 7), 1, 0, 0);
    }

    @Says(promise = 0, words = "Without LEVELS: MEMORY alone.")
    static void withoutLevels() {
        PageLevels x = new PageLevels();
        x.tell(0, 8);
        due("write", x.write(1, 5), 50);
        due("read", x.read(2), 0);
        due("its value", x.read(1), 5);
        due("by memory", x.past(0, 3), 0);
        due("nothing is fetched", x.status(7), 0);
        due("nowhere", x.pages(0), 0);
    }

    @Says(promise = 0, words = "each of the PAGE 1 more than the one ahead: how many so far (1 for the first)")
    static void runs() {
        PageLevels x = new PageLevels();
        due("none", x.status(6), 0);
        int[] pages = {5, 6, 7, 7, 8, 10, 9, 8, 62, 63, 0, 1, 0};
        int[] runs = {1, 2, 3, 1, 2, 1, 1, 1, 1, 2, 1, 2, 1};
        for (int i = 0; i < pages.length; i++) {
            x.read(pages[i]);
            due("run at " + i, x.status(6), runs[i]);
        }
        x.write(1, 0);
        due("a write counts, too", x.status(6), 2);
    }

    @Says(promise = 0, words = "READS and WRITES that went to MEMORY one behind the other (others between don't count)")
    static void othersBetweenARun() {
        PageLevels x = with(4, 1, 3);
        readAll(x, 20, 5, 20);
        due("a hit changes nothing", x.status(6), 1);
        x.write(20, 1);
        readAll(x, 5, 6);
        due("hits between don't count", x.status(6), 2);
        readAll(x, 6, 5);
        due("hits behind don't count", x.status(6), 2);
        readAll(x, 7);
        due("go on", x.status(6), 3);
    }

    @Says(promise = 0, words = "Is RUN 2 or more, as one goes to MEMORY")
    static void fetchedFromRunTwoOn() {
        PageLevels x = with(16, 1, 3);
        x.tell(0, 1);
        readAll(x, 5);
        due("run 1", x.status(7), 0);
        readAll(x, 6);
        due("run 2", x.status(7), 1);
        due("7", x.pages(1), bits(5, 6, 7));
        readAll(x, 6, 7);
        due("hits fetch none", x.status(7), 1);
        readAll(x, 20, 7, 21);
        due("run 2 again", x.pages(1), bits(5, 6, 7, 20, 21, 22));
        PageLevels y = with(1, 1, 3);
        y.tell(0, 1);
        readAll(y, 5, 6);
        due("drives out the page that was read", y.pages(1), bits(7));
    }

    @Says(promise = 0, words = "those of the AHEAD next PAGES (as far as 63)")
    static void fetchedAsFarAs63() {
        PageLevels x = with(16, 1, 3);
        x.tell(0, 8);
        readAll(x, 10, 11);
        due("8 next ones, not 9", x.pages(1), 0xFFC00);
        due("fetched", x.status(7), 8);
        PageLevels y = with(16, 1, 3);
        y.tell(0, 8);
        readAll(y, 60, 61);
        due("62 and 63", y.pages(1), bits(60, 61, 62, 63));
        PageLevels z = with(16, 1, 3);
        z.tell(0, 8);
        readAll(z, 0, 62, 63);
        due("none behind 63", z.pages(1), bits(0, 62, 63));
        due("though it is a run", z.status(6), 2);
        due("fetched", z.status(7), 0);
        PageLevels none = with(16, 1, 3);
        none.tell(0, 0);
        readAll(none, 5, 6);
        due("ahead 0", none.status(7), 0);
    }

    @Says(promise = 0, words = "that are in no LEVEL are PLACED, by numbers, into the last LEVEL, not DIRTY (FETCHED; no COST)")
    static void fetchedIntoTheLast() {
        PageLevels x = with(2, 1, 3, 8, 2, 3);
        x.tell(0, 3);
        x.write(8, 80);
        readAll(x, 5);
        due("cost", x.write(6, 60), 53);
        due("8 is there, 7 and 9 aren't", x.status(7), 2);
        due("in 2 alone", x.where(7) + x.where(9), 4);
        dueAll("by numbers: 7", what -> x.slot(2, 3, what), 7, 0, 6, 3, 1, 0);
        dueAll("by numbers: 9", what -> x.slot(2, 4, what), 9, 0, 7, 3, 1, 0);
        due("the value of 8 stays", x.value(0, 8) + x.value(2, 8), 80);
        due("cost in all", x.status(9), 159);
        due("no read", x.often(7), 0);
    }

    @Says(promise = 0, words = "A WRITE of a VALUE: like a READ, ahead of FETCHING")
    static void writtenAheadOfFetching() {
        PageLevels x = with(1, 1, 3);
        x.tell(0, 1);
        x.write(5, 50);
        x.write(6, 60);
        due("7 drove out 6, which was dirty", x.value(0, 6), 60);
        due("7 is there", x.pages(1), bits(7));
        due("not dirty", x.slot(1, 0, 1), 0);
    }

    @Says(promise = 0, words = "then LEVEL 1 has that VALUE of the PAGE: BACK: DIRTY.")
    static void writtenBack() {
        PageLevels x = with(2, 1, 3, 2, 1, 3);
        x.write(5, 50);
        due("1", x.value(1, 5), 50);
        due("2", x.value(2, 5), 0);
        due("memory", x.value(0, 5), 0);
        dueAll("dirty in 1", what -> x.slot(1, 0, what), 5, 1);
        dueAll("not in 2", what -> x.slot(2, 0, what), 5, 0);
        x.write(5, 0);
        due("dirty, though memory's is the same", x.slot(1, 0, 1), 1);
    }

    @Says(promise = 0, words = "THROUGH: not DIRTY; each other LEVEL that has it, and MEMORY, have it, too, not DIRTY.")
    static void writtenThrough() {
        PageLevels x = with(4, 1, 3, 1, 1, 3, 4, 1, 3);
        x.mode(1, 1);
        x.write(5, 50);
        readAll(x, 6);
        due("2 hasn't it", x.where(5), 5);
        due("a hit in 1", x.write(5, 51), 1);
        due("1", x.value(1, 5), 51);
        due("3, past 2", x.value(3, 5), 51);
        due("memory", x.value(0, 5), 51);
        due("2 still hasn't it", x.value(2, 5), STUCK);
        due("none is dirty", x.differ(1), 0);
        due("to memory", x.status(8), 2);
        due("none was flushed", x.levelOf(1, 8) + x.levelOf(3, 8), 0);
    }

    @Says(promise = 0, words = "(Without LEVELS: MEMORY.)")
    static void writtenWithoutLevels() {
        for (int writes = 0; writes <= 1; writes++) {
            PageLevels x = new PageLevels();
            x.mode(1, writes);
            x.write(5, 50);
            due("memory", x.value(0, 5), 50);
            due("one went there", x.status(8), 1);
        }
    }

    @Says(promise = 0, words = "SWEPT is a LEVEL: by SLOTS, all that are DIRTY are FLUSHED, and aren't DIRTY.")
    static void swept() {
        PageLevels x = with(3, 1, 3);
        x.write(1, 10);
        readAll(x, 2);
        x.write(3, 30);
        due("the dirty ones", x.sweep(1), 2);
        due("flushed", x.levelOf(1, 8), 2);
        due("none is dirty", x.differ(1), 0);
        due("all are there", x.pages(1), bits(1, 2, 3));
        due("none is left", x.sweep(1), 0);
        due("no more flushed", x.levelOf(1, 8), 2);
    }

    @Says(promise = 0, words = "SWEPT OUT: all LEVELS are SWEPT, from 1 on, then they hold nothing, HANDS are 0, RUN is 0.")
    static void sweptOut() {
        PageLevels x = with(2, 1, 7, 4, 2, 7);
        readAll(x, 1, 2, 3);
        x.write(4, 40);
        x.show(0, 1);
        x.show(1, 2);
        x.read(9);
        due("a hand", x.says(0, 7) + x.says(1, 7), 2);
        x.clear();
        due("hands", x.says(0, 7) + x.says(1, 7), 0);
        due("nothing is held", x.levelOf(1, 3) + x.levelOf(2, 3), 0);
        due("run", x.status(6), 0);
        due("by 2 to memory", x.value(0, 4), 40);
        dueAll("flushed from both", level -> x.levelOf(level + 1, 8), 1, 1);
        due("to memory once", x.status(8), 1);
        dueAll("that isn't out", level -> x.levelOf(level + 1, 9), 3, 1);
        readAll(x, 10);
        due("the run begins anew", x.status(6), 1);
    }

    // ---- draws and rows

    @Says(promise = 0, words = "SEED (1 at first) becomes SEED times 1103515245, and 12345 (an int, wrapping)")
    static void seedWraps() {
        for (int seed : new int[] {1, 0, -1, HIGH, LOW, 1 << 30}) {
            PageLevels x = with(1, 1, 8);
            due("at first", x.seed(seed), 1);
            readAll(x, 1, 2);
            due("from " + seed, x.status(11), (int) (seed * 1103515245L + 12345L));
        }
    }

    @Says(promise = 0, words = "its upper 16 bits, no sign, modulo n")
    static void upperBitsWithoutSign() {
        for (int seed = 1; seed < 40; seed++) {
            PageLevels x = with(16, 1, 8);
            for (int page = 0; page < 16; page++) {
                x.read(page);
            }
            x.seed(seed);
            readAll(x, 20);
            due("slot of " + seed, x.slot(1, drawn(nextSeed(seed), 16), 0), 20);
        }
    }

    @Says(promise = 0, words = "SHELVES 0 to 7 hold NOTHING (at first)")
    static void eightShelves() {
        PageLevels x = new PageLevels();
        for (int s = 0; s < 8; s++) {
            due("at first " + s, x.holds(s), NONE);
            due("set in " + s, x.set(s, 0, 0), NOTHING);
        }
        for (int s = 0; s < 8; s++) {
            due("row in " + s, x.row(s, 2, 1), 1);
            due("how many", x.status(17), s + 1);
        }
        due("no ninth", x.row(8, 2, 1), BAD);
        due("none ahead of 0", x.row(-1, 2, 1), BAD);
        due("eight", x.status(17), 8);
    }

    @Says(promise = 0, words = "REFUSALS (the call answers the number; nothing changes but how many there were")
    static void refusalsAreCounted() {
        PageLevels x = with(1, 1, 3, 1, 1, 3, 1, 1, 3);
        x.show(0, 1);
        due("bad", x.read(64), BAD);
        dueAll("counts", kind -> x.status(12 + kind), 1, 0, 0, 0, 0);
        due("other", x.set(0, 0, 0), OTHER);
        dueAll("counts", kind -> x.status(12 + kind), 1, 1, 0, 0, 0);
        due("nothing", x.set(1, 0, 0), NOTHING);
        dueAll("counts", kind -> x.status(12 + kind), 1, 1, 1, 0, 0);
        due("stuck", x.back(), STUCK);
        dueAll("counts", kind -> x.status(12 + kind), 1, 1, 1, 1, 0);
        x.level(1, 1, 3);
        due("full", x.level(1, 1, 3), FULL);
        dueAll("counts", kind -> x.status(12 + kind), 1, 1, 1, 1, 1);
    }
}
