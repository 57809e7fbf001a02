/** The edges of promises 1 to 8: a new object, SHELVES, ROWS, what RULES say. */
final class ShelvesBounds extends Checks {

    // ---- 1: a new object

    @Says(promise = 1, words = "No LEVELS")
    static void noLevels() {
        PageLevels x = new PageLevels();
        due("levels", x.status(0), 0);
        due("in any", x.pages(0), 0);
        due("where", x.where(0), 0);
        refused("drop", PageLevels::new, STUCK, PageLevels::drop);
        refused("sweep", PageLevels::new, BAD, y -> y.sweep(1));
        refused("levelOf", PageLevels::new, BAD, y -> y.levelOf(1, 0));
        refused("slot", PageLevels::new, BAD, y -> y.slot(1, 0, 0));
        refused("value", PageLevels::new, BAD, y -> y.value(1, 0));
        refused("show", PageLevels::new, BAD, y -> y.show(0, 1));
        refused("pages", PageLevels::new, BAD - BITS, BAD, y -> y.pages(1));
        refused("rule", PageLevels::new, BAD, y -> y.rule(1, 0, 0));
        refused("size", PageLevels::new, BAD, y -> y.size(1, 0, 0, 0));
        changesNothing("clear", PageLevels::new, 0, PageLevels::clear);
        changesNothing("kept", PageLevels::new, 1, PageLevels::kept);
    }

    @Says(promise = 1, words = "MEMORY has 0 of each PAGE")
    static void memoryOfZero() {
        PageLevels x = new PageLevels();
        for (int page = 0; page < 64; page++) {
            due("value of " + page, x.value(0, page), 0);
            due("read of " + page, x.read(page), 0);
        }
        due("none differs", x.differ(0) | x.differ(1) | x.differ(2), 0);
    }

    @Says(promise = 1, words = "SHELVES hold NOTHING")
    static void shelvesOfNothing() {
        PageLevels x = new PageLevels();
        dueAll("holds", x::holds, -1, -1, -1, -1, -1, -1, -1, -1);
        due("how many", x.status(17), 0);
    }

    @Says(promise = 1, words = "THE TAPE is empty.")
    static void tapeOfNothing() {
        PageLevels x = new PageLevels();
        due("size", x.status(10), 0);
        due("wiped", x.wipe(), 0);
        due("the first byte", x.feed(114), 1);
    }

    @Says(promise = 1, words = "`PageLevels()`")
    static void objectsAreApart() {
        PageLevels x = with(2, 1, 3);
        PageLevels y = new PageLevels();
        x.write(1, 5);
        x.row(0, 2, 1);
        x.feed(114);
        x.image();
        due("levels", y.status(0), 0);
        due("memory", y.read(1), 0);
        due("shelves", y.holds(0), NONE);
        due("tape", y.status(10), 0);
        due("image", y.back(), STUCK);
        due("seed", y.status(11), 1);
    }

    // ---- 2: row

    @Says(promise = 2, words = "SHELF s holds a new ROW: 1.")
    static void rowLeastAndGreatest() {
        PageLevels x = new PageLevels();
        due("least of all", x.row(0, 0, 0), 1);
        due("greatest of all", x.row(7, 4, 40), 1);
        due("sort 0", x.holds(0), 0);
        due("sort 4", x.holds(7), 4);
        due("no element of none", x.set(0, 0, 1), BAD);
        due("element 39 of 40", x.set(7, 39, 1), 1);
        due("no element 40", x.set(7, 40, 1), BAD);
    }

    @Says(promise = 2, words = "BAD.")
    static void rowBad() {
        badForEach("shelf", Checks::busy, (x, s) -> x.row(s, 0, 1), -1, 8, LOW, HIGH);
        badForEach("sort", Checks::busy, (x, sort) -> x.row(0, sort, 1), -1, 5, LOW, HIGH);
        badForEach("n", Checks::busy, (x, n) -> x.row(0, 0, n), -1, 41, LOW, HIGH);
    }

    @Says(promise = 2, words = "a new ROW")
    static void rowOverWhatWasHeld() {
        PageLevels x = with(2, 1, 3);
        fill(x, 0, 3, 7, 8, 9);
        due("over a row", x.row(0, 3, 2), 1);
        dueAll("0 at first", i -> x.element(0, i), 0, 0, 0);
        due("fewer elements", x.set(0, 2, 1), BAD);
        x.row(0, 3, 3);
        due("0 again behind them", x.element(0, 2), 0);
        x.show(1, 1);
        due("over a rule", x.row(1, 0, 1), 1);
        due("a row now", x.holds(1), 0);
        due("says nothing", x.says(1, 0), OTHER);
    }

    @Says(promise = 0, words = "A ROW has a SORT (0 bytes, 1 shorts, 2 ints, 3 longs, 4 booleans) and 0 to 40 elements "
            + "(0, or not so, at first)")
    static void rowsAtFirst() {
        PageLevels x = new PageLevels();
        for (int sort = 0; sort <= 4; sort++) {
            x.row(sort, sort, 40);
            for (int i = 0; i < 40; i++) {
                due("element " + i, x.element(sort, i), 0);
            }
        }
    }

    @Says(promise = 0, words = "what is put in keeps its lowest bits (of booleans: whether it is not 0)")
    static void lowestBits() {
        long[] puts = {127, 128, -128, -129, 255, 256, 32767, 32768, -32769, 65536, HIGH, HIGH + 1L, LOW - 1L, 1L << 32,
            Long.MAX_VALUE, Long.MIN_VALUE, 0, -1};
        PageLevels x = new PageLevels();
        for (int sort = 0; sort <= 4; sort++) {
            x.row(sort, sort, 1);
        }
        for (long v : puts) {
            for (int sort = 0; sort <= 4; sort++) {
                due("set", x.set(sort, 0, v), 1);
            }
            dueAll("of " + v + " sort", sort -> x.element(sort, 0), (byte) v, (short) v, (int) v, v, v == 0 ? 0 : 1);
        }
    }

    @Says(promise = 0, words = "told they are numbers (1, 0)")
    static void booleansAsNumbers() {
        PageLevels x = new PageLevels();
        fill(x, 0, 4, -1, 256, 1L << 63, 0);
        dueAll("element", i -> x.element(0, i), 1, 1, 1, 0);
        due("pages 1 and 0", x.rowOf(0, 4, 0), 2);
        due("page 1 is oftener", x.rowOf(0, 4, 2), 1);
    }

    // ---- 3: set

    @Says(promise = 3, words = "Element i of the ROW in SHELF s becomes v: 1.")
    static void setFirstAndLast() {
        PageLevels x = new PageLevels();
        x.row(7, 2, 3);
        due("first", x.set(7, 0, 5), 1);
        due("last", x.set(7, 2, 6), 1);
        dueAll("elements", i -> x.element(7, i), 5, 0, 6);
    }

    @Says(promise = 3, words = "BAD SHELF")
    static void setBadShelf() {
        badForEach("shelf", Checks::busy, (x, s) -> x.set(s, 0, 1), -1, 8, LOW, HIGH);
    }

    @Says(promise = 3, words = "OTHER")
    static void setOther() {
        refused("a rule", Checks::busy, OTHER, x -> x.set(2, 0, 1));
        refused("a rule, ahead of i", Checks::busy, OTHER, x -> x.set(2, -1, 1));
    }

    @Says(promise = 3, words = "NOTHING")
    static void setNothing() {
        refused("nothing", Checks::busy, NOTHING, x -> x.set(7, 0, 1));
        refused("nothing, ahead of i", Checks::busy, NOTHING, x -> x.set(7, -1, 1));
    }

    @Says(promise = 3, words = "BAD i")
    static void setBadPlace() {
        badForEach("place", Checks::busy, (x, i) -> x.set(0, i, 77), -1, 8, 39, 40, LOW, HIGH);
        PageLevels x = new PageLevels();
        x.row(0, 0, 0);
        due("of no elements", x.set(0, 0, 1), BAD);
    }

    // ---- 4: copy

    @Says(promise = 4, words = "n elements of the ROW in SHELF p from place i on come to places j on of that in q "
            + "(as they were): n.")
    static void copyAsTheyWere() {
        PageLevels x = new PageLevels();
        fill(x, 0, 3, 1, 2, 3, 4, 5);
        due("up in itself", x.copy(0, 0, 0, 2, 3), 3);
        dueAll("as they were", i -> x.element(0, i), 1, 2, 1, 2, 3);
        fill(x, 0, 3, 1, 2, 3, 4, 5);
        due("down in itself", x.copy(0, 0, 1, 0, 4), 4);
        dueAll("as they were", i -> x.element(0, i), 2, 3, 4, 5, 5);
        fill(x, 1, 3, 9, 9, 9, 9, 9, 9);
        due("in the midst", x.copy(0, 1, 1, 3, 2), 2);
        dueAll("those alone", i -> x.element(1, i), 9, 9, 9, 3, 4, 9);
    }

    @Says(promise = 4, words = "n elements")
    static void copyNoneAndAll() {
        PageLevels x = new PageLevels();
        x.row(0, 0, 40);
        x.row(1, 0, 40);
        x.set(0, 0, 1);
        x.set(0, 39, 2);
        due("all", x.copy(0, 1, 0, 0, 40), 40);
        due("first", x.element(1, 0), 1);
        due("last", x.element(1, 39), 2);
        due("one too many", x.copy(0, 1, 0, 0, 41), BAD);
        due("the last one", x.copy(0, 1, 39, 0, 1), 1);
        due("there", x.element(1, 0), 2);
        due("none", x.copy(0, 1, 0, 0, 0), 0);
        due("none, at the end", x.copy(0, 1, 40, 40, 0), 0);
        x.row(2, 0, 0);
        due("none of none", x.copy(2, 2, 0, 0, 0), 0);
        due("one of none", x.copy(2, 1, 0, 0, 1), BAD);
        due("one into none", x.copy(1, 2, 0, 0, 1), BAD);
    }

    @Says(promise = 4, words = "BAD SHELVES")
    static void copyBadShelves() {
        badForEach("p", Checks::busy, (x, p) -> x.copy(p, 0, 0, 0, 1), -1, 8, LOW, HIGH);
        badForEach("q", Checks::busy, (x, q) -> x.copy(0, q, 0, 0, 1), -1, 8, LOW, HIGH);
        refused("p ahead of a rule", Checks::busy, BAD, x -> x.copy(-1, 2, 0, 0, 1));
        refused("q ahead of a rule", Checks::busy, BAD, x -> x.copy(2, 8, 0, 0, 1));
    }

    @Says(promise = 4, words = "OTHER (also ROWS of two SORTS, if both hold something)")
    static void copyOther() {
        refused("from a rule", Checks::busy, OTHER, x -> x.copy(2, 0, 0, 0, 1));
        refused("to a rule", Checks::busy, OTHER, x -> x.copy(0, 2, 0, 0, 1));
        refused("two rules", Checks::busy, OTHER, x -> x.copy(2, 3, 0, 0, 0));
        refused("a rule to nothing", Checks::busy, OTHER, x -> x.copy(2, 7, 0, 0, 0));
        refused("nothing to a rule", Checks::busy, OTHER, x -> x.copy(7, 2, 0, 0, 0));
        refused("two sorts", Checks::busy, OTHER, x -> x.copy(0, 1, 0, 0, 1));
        refused("two sorts, no elements", Checks::busy, OTHER, x -> x.copy(0, 1, 0, 0, 0));
        refused("two sorts, ahead of the places", Checks::busy, OTHER, x -> x.copy(0, 1, -1, -1, -1));
    }

    @Says(promise = 4, words = "NOTHING")
    static void copyNothing() {
        refused("from nothing", Checks::busy, NOTHING, x -> x.copy(7, 0, 0, 0, 0));
        refused("to nothing", Checks::busy, NOTHING, x -> x.copy(0, 7, 0, 0, 0));
        refused("nothing to nothing", Checks::busy, NOTHING, x -> x.copy(6, 7, 0, 0, 0));
        refused("nothing, ahead of the places", Checks::busy, NOTHING, x -> x.copy(0, 7, -1, -1, -1));
    }

    @Says(promise = 4, words = "BAD the others")
    static void copyBadPlaces() {
        badForEach("i", Checks::busy, (x, i) -> x.copy(0, 0, i, 0, 2), -1, 7, 8, 9, LOW, HIGH);
        badForEach("j", Checks::busy, (x, j) -> x.copy(0, 0, 0, j, 2), -1, 7, 8, 9, LOW, HIGH);
        badForEach("n", Checks::busy, (x, n) -> x.copy(0, 0, 1, 2, n), -1, 7, 40, 41, LOW, HIGH);
        badForEach("all of them", Checks::busy, (x, i) -> x.copy(0, 0, i, i, i), -1, HIGH, LOW, 5);
        PageLevels x = busy();
        due("as far as it goes", x.copy(0, 0, 6, 0, 2), 2);
        due("as far as it goes", x.copy(0, 0, 0, 6, 2), 2);
    }

    // ---- 5: element, 6: holds

    @Says(promise = 5, words = "0: none, no ROW (nothing is refused).")
    static void elementOfNone() {
        changesNothing("behind the last", Checks::busy, 0, x -> x.element(0, 8));
        changesNothing("ahead of the first", Checks::busy, 0, x -> x.element(0, -1));
        changesNothing("far away", Checks::busy, 0, x -> x.element(0, HIGH));
        changesNothing("far away", Checks::busy, 0, x -> x.element(0, LOW));
        changesNothing("a rule", Checks::busy, 0, x -> x.element(2, 0));
        changesNothing("nothing", Checks::busy, 0, x -> x.element(7, 0));
        changesNothing("no shelf", Checks::busy, 0, x -> x.element(8, 0));
        changesNothing("no shelf", Checks::busy, 0, x -> x.element(-1, 0));
        changesNothing("no shelf", Checks::busy, 0, x -> x.element(LOW, HIGH));
        changesNothing("the last", Checks::busy, 2, x -> x.element(0, 7));
    }

    @Says(promise = 6, words = "NONE NOTHING, no SHELF; 0 to 4 a ROW by its SORT; 10 and the number of the LEVEL whose "
            + "RULE it is.")
    static void holdsEach() {
        changesNothing("nothing", Checks::busy, NONE, x -> x.holds(7));
        changesNothing("no shelf", Checks::busy, NONE, x -> x.holds(8));
        changesNothing("no shelf", Checks::busy, NONE, x -> x.holds(-1));
        changesNothing("no shelf", Checks::busy, NONE, x -> x.holds(HIGH));
        changesNothing("bytes", Checks::busy, 0, x -> x.holds(1));
        changesNothing("booleans", Checks::busy, 4, x -> x.holds(4));
        changesNothing("level 1", Checks::busy, 11, x -> x.holds(2));
        changesNothing("level 4", Checks::crowded, 14, x -> x.holds(1));
        PageLevels x = new PageLevels();
        x.row(0, 3, 0);
        due("a row of no elements", x.holds(0), 3);
    }

    // ---- 7: show

    @Says(promise = 7, words = "SHELF s holds the RULE of a LEVEL")
    static void showFirstAndLast() {
        PageLevels x = crowded();
        due("level 1", x.show(0, 1), 1);
        due("over a row", x.holds(0), 11);
        due("its elements are gone", x.element(0, 0), 0);
        due("level 4", x.show(7, 4), 1);
        due("shelf 7", x.holds(7), 14);
        due("the same in two", x.show(0, 4), 1);
        due("both", x.holds(0) + x.holds(7), 28);
    }

    @Says(promise = 7, words = "or NOTHING (level NONE): 1.")
    static void showNothing() {
        PageLevels x = busy();
        int full = x.status(17);
        due("over a rule", x.show(2, -1), 1);
        due("over a row", x.show(0, -1), 1);
        due("over nothing", x.show(7, -1), 1);
        due("nothing", x.holds(2) + x.holds(0) + x.holds(7), -3);
        due("two fewer", x.status(17), full - 2);
        due("no element", x.element(0, 0), 0);
        due("in an object without levels", new PageLevels().show(0, -1), 1);
    }

    @Says(promise = 7, words = "BAD.")
    static void showBad() {
        badForEach("shelf", Checks::busy, (x, s) -> x.show(s, 1), -1, 8, LOW, HIGH);
        badForEach("shelf for nothing", Checks::busy, (x, s) -> x.show(s, -1), -1, 8, LOW, HIGH);
        badForEach("level", Checks::busy, (x, level) -> x.show(2, level), 0, 3, -2, LOW, HIGH);
        badForEach("level", Checks::crowded, (x, level) -> x.show(1, level), 0, 5);
    }

    // ---- 8: says

    /** A LEVEL of a KIND, shown in SHELF 0, that holds nothing. */
    static PageLevels shown(int size, int kind) {
        PageLevels x = with(size, 1, kind);
        x.show(0, 1);
        return x;
    }

    @Says(promise = 8, words = "RULE the KIND it is of")
    static void saysKind() {
        for (int kind = 3; kind <= 8; kind++) {
            due("of kind", shown(2, kind).says(0, 0), kind);
        }
    }

    @Says(promise = 8, words = "NOTED the SLOT that would be VICTIM if its LEVEL were full as it is (NONE: it holds nothing)")
    static void saysSlot() {
        int[] kinds = {3, 4, 5, 6};
        int[] slots = {0, 1, 0, 1};
        for (int i = 0; i < 4; i++) {
            PageLevels x = shown(4, kinds[i]);
            due("it holds nothing", x.says(0, 1), NONE);
            readAll(x, 7);
            due("one alone", x.says(0, 1), 0);
            readAll(x, 8, 9, 9, 7);
            due("not full, of kind " + kinds[i], x.says(0, 1), slots[i]);
            x.clear();
            due("swept out", x.says(0, 1), NONE);
        }
    }

    @Says(promise = 8, words = "ROUND its LEVEL's SIZE")
    static void saysSize() {
        due("clock", shown(1, 7).says(0, 2), 1);
        due("drawn", shown(16, 8).says(0, 2), 16);
    }

    @Says(promise = 8, words = "FIRST the greatest SINCE there (NONE: none)")
    static void saysSince() {
        PageLevels x = shown(2, 3);
        due("none", x.says(0, 3), NONE);
        readAll(x, 7);
        due("the first of all", x.says(0, 3), 0);
        readAll(x, 8, 9, 8);
        due("the greatest", x.says(0, 3), 2);
        x.clear();
        due("none again", x.says(0, 3), NONE);
    }

    @Says(promise = 8, words = "LATE the least LAST there (NONE)")
    static void saysLeastLast() {
        for (int kind = 4; kind <= 6; kind++) {
            PageLevels x = shown(3, kind);
            due("none", x.says(0, 4), NONE);
            readAll(x, 7);
            due("one", x.says(0, 4), 1);
            readAll(x, 8);
            due("the least, in slot 0", x.says(0, 4), 1);
            readAll(x, 7);
            due("the least, in slot 1", x.says(0, 4), 2);
            x.clear();
            due("none again", x.says(0, 4), NONE);
        }
    }

    @Says(promise = 8, words = "LATEST the greatest LAST (NONE)")
    static void saysGreatestLast() {
        PageLevels x = shown(3, 5);
        due("none", x.says(0, 5), NONE);
        readAll(x, 7, 8);
        due("the greatest, in slot 1", x.says(0, 5), 2);
        readAll(x, 7);
        due("the greatest, in slot 0", x.says(0, 5), 3);
        x.clear();
        due("none again", x.says(0, 5), NONE);
    }

    @Says(promise = 8, words = "RAREST the least TIMES (NONE)")
    static void saysLeastTimes() {
        PageLevels x = shown(3, 6);
        due("none", x.says(0, 6), NONE);
        readAll(x, 7, 7, 7, 8, 8);
        due("the least, in slot 1", x.says(0, 6), 2);
        readAll(x, 8, 8, 9, 9, 9, 9);
        due("the least, in slot 0", x.says(0, 6), 3);
        x.clear();
        due("none again", x.says(0, 6), NONE);
    }

    @Says(promise = 8, words = "CLOCK its HAND")
    static void saysHand() {
        PageLevels x = shown(2, 7);
        due("at first", x.says(0, 7), 0);
        readAll(x, 7, 8, 9);
        due("behind slot 0", x.says(0, 7), 1);
        readAll(x, 7);
        due("round about", x.says(0, 7), 0);
    }

    @Says(promise = 8, words = "DRAWN how many VICTIMS it drew")
    static void saysDrawn() {
        PageLevels x = shown(2, 8);
        due("none", x.says(0, 8), 0);
        readAll(x, 7, 8);
        due("none while one is free", x.says(0, 8), 0);
        readAll(x, 1, 2, 3);
        due("three", x.says(0, 8), 3);
        x.would(4, 0);
        due("not in thought", x.says(0, 8), 3);
        x.clear();
        due("sweeping out changes it not", x.says(0, 8), 3);
        x.days(5);
        due("as many as went out", x.says(0, 8), x.levelOf(1, 9));
    }

    @Says(promise = 8, words = "BAD SHELF, KIND (0 to 8)")
    static void saysBad() {
        badForEach("shelf", Checks::busy, (x, s) -> x.says(s, 0), -1, 8, LOW, HIGH);
        badForEach("kind", Checks::busy, (x, kind) -> x.says(2, kind), -1, 9, LOW, HIGH);
        refused("kind, ahead of a row", Checks::busy, BAD, x -> x.says(0, 9));
        refused("kind, ahead of nothing", Checks::busy, BAD, x -> x.says(7, -1));
    }

    @Says(promise = 8, words = "OTHER (also if it is of no such KIND nor of one under it)")
    static void saysOther() {
        refused("a row", Checks::busy, OTHER, x -> x.says(0, 0));
        int[][] above = {{}, {}, {}, {0, 1, 3}, {0, 1, 4}, {0, 1, 4, 5}, {0, 1, 4, 6}, {0, 2, 7}, {0, 2, 8}};
        for (int kind = 3; kind <= 8; kind++) {
            int own = kind;
            for (int asked = 0; asked <= 8; asked++) {
                int one = asked;
                boolean is = false;
                for (int upper : above[kind]) {
                    is |= upper == asked;
                }
                if (is) {
                    PageLevels x = shown(2, kind);
                    x.says(0, asked);
                    due(kind + " as " + asked + " isn't refused", x.status(13), 0);
                } else {
                    refused(kind + " as " + asked, () -> shown(2, own), OTHER, x -> x.says(0, one));
                }
            }
        }
    }

    @Says(promise = 8, words = "NOTHING.")
    static void saysNothing() {
        refused("nothing", Checks::busy, NOTHING, x -> x.says(7, 0));
        refused("nothing, of any kind", Checks::busy, NOTHING, x -> x.says(7, 8));
        PageLevels x = shown(2, 3);
        x.drop();
        due("its level is no more", x.says(0, 0), NOTHING);
    }

    @Says(promise = 8, words = "(NONE isn't refused.)")
    static void saysNoneUnrefused() {
        for (int kind : new int[] {1, 3}) {
            changesNothing("first", () -> shown(2, 3), NONE, x -> x.says(0, kind));
        }
        for (int kind : new int[] {1, 4, 5}) {
            changesNothing("latest", () -> shown(2, 5), NONE, x -> x.says(0, kind));
        }
        for (int kind : new int[] {1, 4, 6}) {
            changesNothing("rarest", () -> shown(2, 6), NONE, x -> x.says(0, kind));
        }
    }
}
