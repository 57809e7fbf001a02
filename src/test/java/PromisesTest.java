/** The promises of the document, one after the other: ordinary calls, edges, wrong numbers. */
public final class PromisesTest extends Checks {
    static void newObject() {
        promise = "1 a new object";
        PageLevels x = new PageLevels();
        int[] first = {0, 0, 0, 0, 50, 0, 0, 0, 0, 0, 0, 1, 0, 0, 0, 0, 0, 0};
        for (int what = 0; what < first.length; what++) {
            due("status " + what, x.status(what), first[what]);
        }
        for (int page = 0; page < 64; page++) {
            due("memory of " + page, x.value(0, page), 0);
            due("often " + page, x.often(page), 0);
        }
        for (int s = 0; s < 8; s++) {
            due("holds " + s, x.holds(s), -1);
        }
        due("the constant", PageLevels.NONE, -1);
        due("pages", x.pages(0), 0);
        due("kept", x.kept(), 1);
    }

    static void row() {
        promise = "2 row";
        PageLevels x = new PageLevels();
        int[][] wrongOnes = {{-1, 0, 0}, {8, 0, 0}, {0, -1, 0}, {0, 5, 0}, {0, 0, -1}, {0, 0, 41}, {LOW, LOW, LOW},
            {HIGH, HIGH, HIGH}};
        for (int[] a : wrongOnes) {
            due("row", x.row(a[0], a[1], a[2]), BAD);
        }
        due("refused", x.status(12), wrongOnes.length);
        due("still nothing", x.status(17), 0);
        for (int sort = 0; sort <= 4; sort++) {
            due("row", x.row(sort, sort, 40), 1);
            due("holds", x.holds(sort), sort);
            due("last", x.set(sort, 39, 1), 1);
            due("behind", x.set(sort, 40, 1), BAD);
        }
        due("row of none", x.row(7, 3, 0), 1);
        due("holds", x.holds(7), 3);
        due("set in none", x.set(7, 0, 1), BAD);
        x.set(0, 3, 5);
        due("new row", x.row(0, 2, 4), 1);
        due("is 0", x.element(0, 3), 0);
        due("is shorter", x.set(0, 4, 1), BAD);
        due("full shelves", x.status(17), 6);
    }

    static void set() {
        promise = "3 set";
        PageLevels x = with(2, 1, 3);
        long[][] told = {{300, 44, 300, 300, 300, 1}, {-129, 127, -129, -129, -129, 1},
            {65536 + 7, 7, 7, 65543, 65543, 1}, {1L << 32, 0, 0, 0, 1L << 32, 1}, {0, 0, 0, 0, 0, 0},
            {40000, 64, -25536, 40000, 40000, 1}, {1L << 31, 0, 0, Integer.MIN_VALUE, 1L << 31, 1},
            {Long.MIN_VALUE, 0, 0, 0, Long.MIN_VALUE, 1}, {-1, -1, -1, -1, -1, 1}};
        for (int sort = 0; sort <= 4; sort++) {
            x.row(sort, sort, 3);
            for (long[] t : told) {
                due("set", x.set(sort, 1, t[0]), 1);
                due("sort " + sort + " of " + t[0], x.element(sort, 1), t[sort + 1]);
            }
            due("ahead", x.element(sort, 0), 0);
            due("behind", x.element(sort, 2), 0);
        }
        x.show(6, 1);
        due("shelf", x.set(-1, 0, 0), BAD);
        due("shelf", x.set(8, 0, 0), BAD);
        due("a rule", x.set(6, -1, 0), OTHER);
        due("nothing", x.set(7, -1, 0), NOTHING);
        due("i", x.set(0, -1, 0), BAD);
        due("i", x.set(0, 3, 0), BAD);
        due("i", x.set(0, HIGH, 0), BAD);
        due("i", x.set(0, LOW, 0), BAD);
    }

    static void copy() {
        promise = "4 copy";
        PageLevels x = with(2, 1, 3);
        fill(x, 0, 2, 1, 2, 3, 4, 5);
        due("over itself", x.copy(0, 0, 0, 1, 4), 4);
        long[] up = {1, 1, 2, 3, 4};
        for (int i = 0; i < 5; i++) {
            due("up " + i, x.element(0, i), up[i]);
        }
        fill(x, 0, 2, 1, 2, 3, 4, 5);
        due("over itself", x.copy(0, 0, 2, 0, 3), 3);
        long[] down = {3, 4, 5, 4, 5};
        for (int i = 0; i < 5; i++) {
            due("down " + i, x.element(0, i), down[i]);
        }
        x.row(1, 2, 3);
        due("to another", x.copy(0, 1, 1, 2, 1), 1);
        due("there", x.element(1, 2), 4);
        due("not there", x.element(1, 1), 0);
        due("none at the end", x.copy(0, 1, 5, 3, 0), 0);
        x.row(2, 3, 3);
        x.show(3, 1);
        due("shelf p", x.copy(-1, 3, 0, 0, 0), BAD);
        due("shelf q", x.copy(3, 8, 0, 0, 0), BAD);
        due("two sorts", x.copy(0, 2, -1, 0, 0), OTHER);
        due("a rule and nothing", x.copy(3, 7, -1, 0, 0), OTHER);
        due("nothing and a rule", x.copy(7, 3, -1, 0, 0), OTHER);
        due("two rules", x.copy(3, 3, 0, 0, 0), OTHER);
        due("nothing and a row", x.copy(7, 0, -1, 0, 0), NOTHING);
        due("a row and nothing", x.copy(0, 7, -1, 0, 0), NOTHING);
        int[][] wrongOnes = {{-1, 0, 1}, {0, -1, 1}, {0, 0, -1}, {3, 0, 3}, {0, 1, 3}, {6, 0, 0}, {0, 4, 0},
            {0, 0, HIGH}, {HIGH, 0, HIGH}, {0, HIGH, 1}, {HIGH, HIGH, HIGH}, {LOW, 0, 0}, {0, 0, LOW}};
        for (int[] a : wrongOnes) {
            due("places", x.copy(0, 1, a[0], a[1], a[2]), BAD);
        }
        due("unchanged", x.element(1, 0), 0);
    }

    static void element() {
        promise = "5 element";
        PageLevels x = with(2, 1, 3);
        fill(x, 0, 3, 7, Long.MAX_VALUE);
        x.show(1, 1);
        due("first", x.element(0, 0), 7);
        due("last", x.element(0, 1), Long.MAX_VALUE);
        due("behind", x.element(0, 2), 0);
        due("ahead", x.element(0, -1), 0);
        due("a rule", x.element(1, 0), 0);
        due("nothing", x.element(2, 0), 0);
        due("no shelf", x.element(8, 0), 0);
        due("no shelf", x.element(LOW, HIGH), 0);
        due("nothing refused", x.status(12) + x.status(13) + x.status(14), 0);
    }

    static void holds() {
        promise = "6 holds";
        PageLevels x = with(2, 1, 3, 2, 1, 4);
        x.show(5, 2);
        x.row(6, 4, 0);
        due("a rule", x.holds(5), 12);
        due("a row", x.holds(6), 4);
        due("nothing", x.holds(0), -1);
        due("no shelf", x.holds(8), -1);
        due("no shelf", x.holds(-1), -1);
        due("nothing refused", x.status(12), 0);
    }

    static void show() {
        promise = "7 show";
        PageLevels x = with(2, 1, 3, 2, 1, 4);
        due("shelf", x.show(8, 1), BAD);
        due("shelf", x.show(-1, -1), BAD);
        due("level", x.show(0, 0), BAD);
        due("level", x.show(0, 3), BAD);
        due("level", x.show(0, -2), BAD);
        x.row(0, 1, 4);
        due("over a row", x.show(0, 1), 1);
        due("holds", x.holds(0), 11);
        due("another", x.show(0, 2), 1);
        due("holds", x.holds(0), 12);
        due("counted", x.status(17), 1);
        due("nothing", x.show(0, -1), 1);
        due("holds", x.holds(0), -1);
        due("counted", x.status(17), 0);
        x.show(1, 1);
        due("row over a rule", x.row(1, 1, 1), 1);
        due("holds", x.holds(1), 1);
    }

    static void says() {
        promise = "8 says";
        int[][] isOf = {{}, {}, {}, {0, 1, 3}, {0, 1, 4}, {0, 1, 4, 5}, {0, 1, 4, 6}, {0, 2, 7}, {0, 2, 8}};
        for (int kind = 3; kind <= 8; kind++) {
            PageLevels x = with(3, 1, kind);
            x.show(0, 1);
            for (int asked = 0; asked <= 8; asked++) {
                boolean under = false;
                for (int k : isOf[kind]) {
                    under |= k == asked;
                }
                int empty = asked == 0 ? kind : asked == 2 ? 3 : asked > 6 ? 0 : -1;
                due(kind + " as " + asked, x.says(0, asked), under ? empty : OTHER);
            }
        }
        PageLevels x = with(4, 1, 3, 4, 1, 4, 4, 1, 5, 4, 1, 6);
        for (int level = 1; level <= 4; level++) {
            x.show(level, level);
        }
        readAll(x, 10, 20, 30, 10, 10, 20);
        due("first: slot", x.says(1, 1), 0);
        due("first: greatest since", x.says(1, 3), 11);
        due("late: slot", x.says(2, 1), 0);
        due("late: least last", x.says(2, 4), 1);
        due("latest: slot", x.says(3, 1), 2);
        due("latest: greatest last", x.says(3, 5), 3);
        due("latest as late", x.says(3, 4), 1);
        due("rarest: slot", x.says(4, 1), 0);
        due("rarest: least times", x.says(4, 6), 1);
        PageLevels r = with(4, 1, 6);
        r.show(0, 1);
        readAll(r, 10, 20, 30, 10, 10, 20, 30, 20);
        due("rarest", r.says(0, 1), 2);
        due("rarest as late", r.says(0, 4), 5);
        due("least times", r.says(0, 6), 2);
        readAll(r, 30);
        due("three of three: the least last", r.says(0, 1), 0);
        PageLevels l = with(3, 1, 4);
        l.show(0, 1);
        readAll(l, 10, 20, 30, 10);
        due("late", l.says(0, 1), 1);
        readAll(l, 40);
        due("late, put there", l.slot(1, 1, 0), 40);
        PageLevels c = with(2, 1, 7);
        c.show(0, 1);
        readAll(c, 1, 2, 3);
        due("hand", c.says(0, 7), 1);
        due("round", c.says(0, 2), 2);
        readAll(c, 4);
        due("hand, round about", c.says(0, 7), 0);
        PageLevels d = with(3, 1, 8);
        d.show(0, 1);
        readAll(d, 1, 2, 3);
        due("drew none", d.says(0, 8), 0);
        readAll(d, 4, 5, 4);
        due("drew", d.says(0, 8), d.levelOf(1, 9));
        d.clear();
        due("still drew", d.says(0, 8), d.levelOf(1, 9));
        d.row(1, 0, 1);
        due("shelf", d.says(8, 0), BAD);
        due("shelf", d.says(-1, 0), BAD);
        due("kind", d.says(1, 9), BAD);
        due("kind", d.says(2, -1), BAD);
        due("a row", d.says(1, 0), OTHER);
        due("nothing", d.says(2, 0), NOTHING);
        due("none isn't refused", l.says(0, 3), OTHER);
    }

    static void feed() {
        promise = "9 feed";
        PageLevels x = new PageLevels();
        due("letter", x.feed(-1), BAD);
        due("letter", x.feed(256), BAD);
        due("size", x.feed(0), 1);
        due("size", x.feed(255), 2);
        for (int i = 3; i <= 250; i++) {
            due("size", x.feed(32), i);
        }
        due("full", x.feed(32), FULL);
        due("bad ahead of full", x.feed(256), BAD);
        due("size", x.status(10), 250);
        due("refused", x.status(16), 1);
        due("a full one", x.traffic(), -800);
        due("size", x.status(10), 0);
    }

    static void wipe() {
        promise = "10 wipe";
        PageLevels x = new PageLevels();
        due("empty", x.wipe(), 0);
        feedAll(x, "r1 r");
        due("size", x.wipe(), 4);
        due("size", x.status(10), 0);
        due("anew", traffic(x, "r2"), 50);
        due("only the new", x.often(1), 0);
    }

    static void faults() {
        promise = "11 traffic: faults";
        PageLevels x = with(2, 1, 3, 2, 1, 3);
        String[] texts = {"", "r", "w", "s", "a", "r1 ", "w1", "w1=", "w63", " r1", "r1  r2", "x", "R1", "r 1", "r1x",
            "r64", "r064", "r100", "r640", "r0001", "r9999", "r-1", "w64=1", "w1 =2", "w1= 2", "w1=1000", "w1=0999",
            "w1:2", "s0", "s3", "s", "s12", "a9", "a08x", "a10", "a009", "a0000", "r1,r2", "r1=2", "r1 s3 x", "1",
            "r1\tr2", "r1 w2=3 s1 a", "w1=x", "r:", "r/"};
        int[] faults = {0, 1, 1, 1, 1, 3, 2, 3, 3, 0, 3, 0, 0, 1, 2, 1, 1, 1, 1, 4, 1, 1, 1, 2, 3, 6, 6, 2, 1, 1, 1, 1,
            1, 3, 1, 1, 4, 2, 2, 4, 0, 2, 12, 3, 1, 1};
        for (int i = 0; i < texts.length; i++) {
            due("'" + texts[i] + "'", traffic(x, texts[i]), -800 - faults[i]);
            due("empty then", x.status(10), 0);
        }
        due("refused", x.status(12), texts.length);
        due("nothing done", x.status(5), 0);
        due("nothing done", x.status(3), 0);
        StringBuilder many = new StringBuilder("r0");
        for (int i = 1; i < 30; i++) {
            many.append(" r").append(i % 10);
        }
        due("30 parts", traffic(new PageLevels(), many.toString()), 1500);
        due("a blank behind 30", traffic(new PageLevels(), many + " "), -800 - 89);
        due("a 31st", traffic(new PageLevels(), many + " r1"), -800 - 89);
        due("a digit more", traffic(new PageLevels(), many + "123"), -800 - 88);
        due("a fourth digit at the end", traffic(new PageLevels(), many.substring(0, 88) + "0123"), -800 - 91);
        due("29 and a blank", traffic(new PageLevels(), many.substring(0, 87)), -800 - 87);
        due("no level", traffic(new PageLevels(), "s1"), -801);
    }

    static void traffic() {
        promise = "11 traffic";
        PageLevels x = with(2, 1, 3, 4, 5, 4);
        due("cost", traffic(x, "w7=300 r7 r007 s1"), 56 + 1 + 1);
        due("swept", x.levelOf(1, 8), 1);
        due("below", x.value(2, 7), 300);
        due("memory", x.value(0, 7), 0);
        due("largest", traffic(x, "w63=999 w0=000 s2 a8"), 112);
        due("ahead", x.status(3), 8);
        due("value", x.value(1, 63), 999);
        due("value", x.value(1, 0), 0);
        due("swept", x.value(0, 7), 300);
        due("ahead none", traffic(x, "a0"), 0);
        due("ahead", x.status(3), 0);
        due("ahead counts at once", traffic(x, "r10 a2 r11"), 112);
        due("fetched", x.status(7), 2);
        due("nothing refused", x.status(12), 0);
        due("cost in all", x.status(9), 58 + 112 + 112);
    }

    static void level() {
        promise = "12 level";
        PageLevels x = new PageLevels();
        int[][] wrongOnes = {{0, 0, 3}, {17, 0, 3}, {1, -1, 3}, {1, 100, 3}, {1, 0, 2}, {1, 0, 9}, {1, 0, 0},
            {LOW, HIGH, LOW}};
        for (int[] a : wrongOnes) {
            due("level", x.level(a[0], a[1], a[2]), BAD);
        }
        due("none", x.status(0), 0);
        due("first", x.level(1, 0, 3), 1);
        x.tell(0, 1);
        x.write(5, 6);
        due("run", x.status(6), 1);
        due("refused", x.level(0, 0, 3), BAD);
        due("not swept out", x.pages(0), bits(5));
        due("run", x.status(6), 1);
        due("second", x.level(16, 99, 8), 2);
        due("swept out", x.pages(0), 0);
        due("flushed", x.value(0, 5), 6);
        due("run", x.status(6), 0);
        due("size", x.levelOf(2, 0), 16);
        due("cost", x.levelOf(2, 1), 99);
        due("kind", x.levelOf(2, 2), 8);
        due("third", x.level(3, 3, 7), 3);
        due("fourth", x.level(3, 3, 6), 4);
        x.write(8, 1);
        due("full", x.level(3, 3, 6), FULL);
        due("bad ahead of full", x.level(3, 3, 2), BAD);
        due("not swept out", x.pages(1), bits(8));
        due("levels", x.status(0), 4);
        x.drop();
        x.level(2, 2, 4);
        for (int what = 3; what <= 9; what++) {
            due("a new one " + what, x.levelOf(4, what), 0);
        }
    }

    static void drop() {
        promise = "13 drop";
        PageLevels x = new PageLevels();
        due("none", x.drop(), STUCK);
        due("refused", x.status(15), 1);
        x.level(2, 1, 3);
        x.level(2, 2, 4);
        x.show(0, 1);
        x.show(1, 2);
        x.row(2, 1, 1);
        x.write(9, 4);
        due("drop", x.drop(), 1);
        due("flushed", x.value(0, 9), 4);
        due("nothing held", x.pages(0), 0);
        due("the other shelf", x.holds(0), 11);
        due("its shelf", x.holds(1), -1);
        due("a row", x.holds(2), 1);
        due("run", x.status(6), 0);
        due("the rule says", x.says(0, 0), 3);
        x.level(2, 2, 4);
        due("its shelf still", x.holds(1), -1);
        due("drop", x.drop(), 1);
        due("drop", x.drop(), 0);
        due("no more", x.holds(0), -1);
        due("none", x.drop(), STUCK);
    }

    static void mode() {
        promise = "14 mode";
        PageLevels x = with(2, 1, 3);
        int[][] wrongOnes = {{-1, 0}, {2, 0}, {0, -1}, {0, 3}, {1, -1}, {1, 2}, {LOW, LOW}, {HIGH, HIGH}};
        x.write(3, 4);
        for (int[] a : wrongOnes) {
            due("mode", x.mode(a[0], a[1]), BAD);
        }
        due("not swept out", x.where(3), 1);
        due("free", x.mode(0, 2), 0);
        due("swept out", x.where(3), 0);
        due("flushed", x.value(0, 3), 4);
        due("run", x.status(6), 0);
        due("exclusive", x.mode(0, 1), 2);
        due("inclusive", x.mode(0, 1), 1);
        due("back", x.mode(1, 1), 0);
        due("through", x.mode(1, 0), 1);
        due("status", x.status(1), 1);
        due("status", x.status(2), 0);
        x.read(3);
        due("the same", x.mode(1, 0), 0);
        due("swept out, too", x.where(3), 0);
    }

    static void tell() {
        promise = "15 tell";
        PageLevels x = with(2, 1, 3);
        int[][] wrongOnes = {{-1, 0}, {2, 0}, {0, -1}, {0, 9}, {1, -1}, {1, 1000}, {LOW, LOW}};
        for (int[] a : wrongOnes) {
            due("tell", x.tell(a[0], a[1]), BAD);
        }
        x.read(4);
        due("ahead", x.tell(0, 8), 0);
        due("ahead", x.tell(0, 0), 8);
        due("cost", x.tell(1, 999), 50);
        due("cost", x.tell(1, 0), 999);
        due("not swept out", x.where(4), 1);
        due("costs that", x.write(9, 1), 1);
        x.tell(1, 999);
        due("costs that", x.write(10, 1), 1000);
    }

    static void read() {
        promise = "16 read";
        PageLevels x = with(1, 1, 3, 2, 10, 3);
        x.tell(1, 100);
        due("page", x.read(-1), BAD);
        due("page", x.read(64), BAD);
        due("turn", x.status(5), 0);
        x.write(0, BAD);
        due("a value like a refusal", x.read(0), BAD);
        due("refused", x.status(12), 2);
        due("turn", x.status(5), 2);
        due("cost", x.status(9), 112);
        readAll(x, 63);
        due("touched not by placing", x.slot(2, 0, 4), 1);
        readAll(x, 0);
        due("from 2: cost", x.past(0, 2), 11);
        due("touched", x.slot(2, 0, 4), 2);
        due("last", x.slot(2, 0, 3), 4);
        due("used", x.slot(2, 0, 5), 1);
        due("placed in 1", x.slot(1, 0, 0), 0);
        due("not dirty there", x.slot(1, 0, 1), 0);
        due("the value came along", x.value(1, 0), BAD);
        due("dirty below", x.slot(2, 0, 1), 1);
        due("hits", x.levelOf(1, 5), 1);
        due("misses", x.levelOf(1, 6), 3);
        due("hits", x.levelOf(2, 5), 1);
        due("misses", x.levelOf(2, 6), 2);
        PageLevels y = new PageLevels();
        y.tell(0, 3);
        readAll(y, 1, 2, 3);
        due("without levels: run", y.status(6), 3);
        due("without levels: fetched", y.status(7), 0);
        due("without levels: cost", y.status(9), 150);
    }

    static void victims() {
        promise = "16 read: victims";
        int[] order = {1, 2, 3, 1, 1, 2, 4, 1};
        long[] keeps = {bits(1, 3, 4), bits(1, 2, 4), bits(1, 3, 4), bits(1, 2, 4), bits(1, 2, 4)};
        for (int kind = 3; kind <= 6; kind++) {
            PageLevels x = with(3, 1, kind);
            readAll(x, order);
            due("by " + kind, x.pages(1), keeps[kind - 3]);
        }
        PageLevels first = with(2, 1, 3);
        readAll(first, 1, 2, 1, 3);
        due("since of the first", first.slot(1, 1, 2), 1);
        due("the first went, though touched", first.slot(1, 0, 0), 3);
        due("since", first.slot(1, 0, 2), 2);
        PageLevels clock = with(3, 1, 7);
        readAll(clock, 1, 2, 3, 1, 2);
        due("used", clock.slot(1, 0, 5), 1);
        readAll(clock, 4);
        due("third goes", clock.pages(1), bits(1, 2, 4));
        due("gone by", clock.slot(1, 0, 5), 0);
        due("gone by", clock.slot(1, 1, 5), 0);
        due("not used", clock.slot(1, 2, 5), 0);
        readAll(clock, 1, 2, 4, 5);
        due("all used: round about to the hand", clock.pages(1), bits(5, 2, 4));
        due("gone by", clock.slot(1, 2, 5), 0);
        PageLevels drawn = with(3, 1, 8);
        drawn.seed(1);
        readAll(drawn, 1, 2, 3);
        due("no draw", drawn.status(11), 1);
        readAll(drawn, 4);
        int next = 1103515245 + 12345;
        due("a draw", drawn.status(11), next);
        due("its slot", drawn.slot(1, (next >>> 16) % 3, 0), 4);
        drawn.seed(-7);
        readAll(drawn, 5);
        next = -7 * 1103515245 + 12345;
        due("its slot", drawn.slot(1, (next >>> 16) % 3, 0), 5);
    }

    static void free() {
        promise = "16 read: free";
        PageLevels x = with(1, 1, 3, 1, 2, 3);
        x.write(5, 50);
        readAll(x, 6);
        due("1 goes out after 2", x.value(0, 5), 50);
        due("flushed by 1", x.levelOf(1, 8), 1);
        due("flushed by 2", x.levelOf(2, 8), 0);
        PageLevels y = with(1, 1, 3, 3, 2, 3);
        y.write(5, 50);
        readAll(y, 6);
        due("to the next that has it", y.value(2, 5), 50);
        due("dirty there", y.slot(2, 0, 1), 1);
        due("not to memory", y.value(0, 5), 0);
        due("since", y.slot(1, 0, 2), 3);
        due("since", y.slot(2, 1, 2), 2);
        PageLevels z = with(2, 1, 3, 1, 2, 3);
        z.write(5, 50);
        readAll(z, 6);
        due("stays in 1 alone", z.where(5), 1);
        due("in 2 another", z.pages(2), bits(6));
        due("dirty in 1", z.value(1, 5), 50);
        PageLevels w = with(1, 1, 3, 1, 1, 3, 4, 1, 3);
        w.write(5, 7);
        w.sweep(1);
        readAll(w, 6);
        due("past a level without it", w.value(3, 5), 7);
        due("went to 3", w.slot(3, 0, 1), 1);
    }

    static void inclusive() {
        promise = "16 read: inclusive";
        PageLevels x = with(3, 1, 3, 2, 2, 3);
        x.mode(0, 1);
        x.write(5, 50);
        readAll(x, 6, 7);
        due("5 left both", x.where(5), 0);
        due("the nearest dirty value", x.value(0, 5), 50);
        due("flushed from 2", x.levelOf(2, 8), 1);
        due("not from 1", x.levelOf(1, 8), 0);
        due("out of 1", x.levelOf(1, 9), 1);
        due("out of 2", x.levelOf(2, 9), 1);
        due("once to memory", x.status(8), 1);
        due("7 in the first free slot", x.slot(1, 0, 0), 7);
        PageLevels y = with(1, 1, 3, 2, 2, 3, 2, 3, 3);
        y.mode(0, 1);
        y.write(1, 10);
        y.sweep(1);
        y.write(1, 11);
        readAll(y, 2, 3);
        due("the nearest of two", y.value(0, 1), 11);
        due("flushed from 3", y.levelOf(3, 8), 1);
        due("kept", y.kept(), 1);
        PageLevels z = with(2, 1, 3, 2, 2, 3);
        z.mode(0, 1);
        z.write(1, 10);
        z.sweep(1);
        readAll(z, 2, 3);
        due("itself last", z.value(0, 1), 10);
        due("once", z.status(8), 1);
        PageLevels w = with(1, 1, 3, 2, 2, 3);
        w.mode(0, 1);
        w.write(1, 10);
        readAll(w, 2);
        due("flushed below", w.value(2, 1), 10);
        due("dirty below", w.slot(2, 0, 1), 1);
        due("out of 1", w.levelOf(1, 9), 1);
        due("by 1", w.levelOf(1, 8), 1);
    }

    static void exclusive() {
        promise = "16 read: exclusive";
        PageLevels x = with(1, 1, 3, 1, 2, 3, 1, 4, 3);
        x.mode(0, 2);
        x.write(1, 11);
        due("in 1 alone", x.where(1), 1);
        readAll(x, 2);
        due("handed on", x.where(1), 2);
        due("dirty as it is", x.slot(2, 0, 1), 1);
        due("not flushed", x.levelOf(1, 8), 0);
        due("out", x.levelOf(1, 9), 1);
        due("since, ahead of the nearer", x.slot(2, 0, 2), 1);
        due("since", x.slot(1, 0, 2), 2);
        readAll(x, 3);
        due("handed on", x.where(1), 4);
        due("since, the farthest ahead", x.slot(3, 0, 2), 3);
        due("since", x.slot(2, 0, 2), 4);
        due("since", x.slot(1, 0, 2), 5);
        due("last", x.slot(3, 0, 3), 3);
        due("times", x.slot(3, 0, 4), 1);
        readAll(x, 4);
        due("from the last flushed", x.value(0, 1), 11);
        due("by 3", x.levelOf(3, 8), 1);
        due("nowhere", x.where(1), 0);
        x.write(4, 44);
        readAll(x, 5);
        due("from 2", x.read(4), 44);
        due("left its slot", x.where(4), 1);
        due("dirty as it was", x.slot(1, 0, 1), 1);
        due("not out of 2", x.levelOf(2, 9), 3);
        due("5 into its slot", x.where(5), 2);
        due("times anew", x.slot(1, 0, 4), 1);
        due("not used", x.slot(1, 0, 5), 0);
        due("kept", x.kept(), 1);
        due("not in two", x.differ(2), 0);
    }

    static void ahead() {
        promise = "16 read: ahead";
        PageLevels x = with(2, 1, 3, 8, 2, 3);
        x.tell(0, 3);
        readAll(x, 10);
        due("run", x.status(6), 1);
        due("not yet", x.status(7), 0);
        readAll(x, 10, 12);
        due("a gap", x.status(6), 1);
        readAll(x, 11);
        due("back is no run", x.status(6), 1);
        readAll(x, 12, 20, 21);
        due("run", x.status(6), 2);
        due("fetched", x.status(7), 3);
        due("into the last", x.pages(2), bits(10, 11, 12, 20, 21, 22, 23, 24));
        due("not into 1", x.pages(1), bits(20, 21));
        due("no cost", x.past(0, 2), 53);
        due("placed in 2", x.levelOf(2, 7), 8);
        due("last is the turn", x.slot(2, 5, 3), 7);
        readAll(x, 22);
        due("a hit is no run", x.status(6), 2);
        x.tell(0, 8);
        readAll(x, 10, 40, 63, 62);
        readAll(x, 63);
        PageLevels y = with(4, 1, 3);
        y.tell(0, 8);
        readAll(y, 61);
        readAll(y, 5, 61);
        readAll(y, 62);
        due("a hit between doesn't count", y.status(6), 1);
        PageLevels z = with(4, 1, 3);
        z.tell(0, 8);
        readAll(z, 61, 61, 62);
        due("hits between don't count", z.status(6), 2);
        due("as far as 63", z.status(7), 1);
        due("63", z.where(63), 1);
        readAll(z, 0);
        due("0 isn't behind 63", z.status(6), 1);
        PageLevels w = with(2, 1, 3);
        w.tell(0, 2);
        w.write(7, 1);
        due("cost of a write", w.write(8, 2), 51);
        due("behind the write: both out", w.pages(1), bits(9, 10));
        due("flushed 7", w.value(0, 7), 1);
        due("flushed 8", w.value(0, 8), 2);
        PageLevels v = with(8, 1, 3);
        v.tell(0, 2);
        readAll(v, 11, 5);
        v.write(6, 3);
        due("fetched by a write", v.pages(1), bits(11, 5, 6, 7, 8));
        readAll(v, 9);
        v.tell(0, 3);
        readAll(v, 10);
        due("those that are there stay", v.status(7), 4);
        v.clear();
        due("run", v.status(6), 0);
        readAll(v, 11);
        due("anew", v.status(6), 1);
        due("none fetched", v.status(7), 4);
        PageLevels n = with(1, 1, 3);
        n.tell(0, 0);
        readAll(n, 0, 1, 2);
        due("ahead 0", n.status(7), 0);
        due("run of 0, 1, 2", n.status(6), 3);
        PageLevels i = with(4, 1, 3, 2, 2, 3);
        i.mode(0, 1);
        i.tell(0, 2);
        readAll(i, 1, 2);
        due("fetched drive out of both", i.pages(0), bits(3, 4));
        PageLevels e = with(1, 1, 3, 2, 2, 3);
        e.mode(0, 2);
        e.tell(0, 1);
        e.write(1, 5);
        readAll(e, 2, 4);
        due("exclusive", e.pages(2), bits(3, 2));
        due("the dirty one was flushed", e.value(0, 1), 5);
    }

    static void write() {
        promise = "17 write";
        PageLevels x = with(2, 1, 3, 3, 5, 3);
        due("page", x.write(-1, 0), BAD);
        due("page", x.write(64, 0), BAD);
        due("cost", x.write(0, 7), 56);
        due("dirty in 1", x.slot(1, 0, 1), 1);
        due("not in 2", x.slot(2, 0, 1), 0);
        due("value in 2", x.value(2, 0), 0);
        due("a hit", x.write(0, 8), 1);
        due("value", x.value(1, 0), 8);
        due("touched once a write", x.slot(1, 0, 4), 2);
        due("memory", x.status(8), 0);
        x.mode(1, 1);
        due("memory by sweeping out", x.value(0, 0), 8);
        due("cost", x.write(0, HIGH), 56);
        due("through: not dirty", x.differ(1), 0);
        due("in 2, too", x.value(2, 0), HIGH);
        due("in memory", x.value(0, 0), HIGH);
        due("went to memory", x.status(8), 2);
        due("hit, through", x.write(0, LOW), 1);
        due("in memory", x.value(0, 0), LOW);
        due("in 2, too", x.value(2, 0), LOW);
        due("no run by a hit", x.status(6), 1);
        PageLevels y = new PageLevels();
        due("memory alone", y.write(9, 4), 50);
        due("value", y.read(9), 4);
        due("went there", y.status(8), 1);
        due("run", y.status(6), 1);
        PageLevels e = with(1, 1, 3, 1, 2, 3);
        e.mode(0, 2);
        e.mode(1, 1);
        e.write(1, 2);
        e.write(3, 4);
        e.write(1, 5);
        due("exclusive, through", e.value(1, 1), 5);
        due("memory", e.value(0, 1), 5);
        due("nothing dirty", e.differ(1), 0);
    }

    static void sweep() {
        promise = "18 sweep";
        PageLevels x = with(3, 1, 3, 3, 2, 3);
        due("level", x.sweep(0), BAD);
        due("level", x.sweep(3), BAD);
        due("level", x.sweep(-1), BAD);
        due("none", x.sweep(1), 0);
        x.write(1, 10);
        x.write(2, 20);
        x.read(3);
        due("two", x.sweep(1), 2);
        due("still there", x.pages(1), bits(1, 2, 3));
        due("not dirty", x.levelOf(1, 4), 0);
        due("dirty below", x.levelOf(2, 4), 2);
        due("flushed", x.levelOf(1, 8), 2);
        due("not out", x.levelOf(1, 9), 0);
        due("again", x.sweep(1), 0);
        due("the next", x.sweep(2), 2);
        due("memory", x.value(0, 2), 20);
        due("to memory", x.status(8), 2);
        due("turn", x.status(5), 3);
        due("run", x.status(6), 3);
    }

    static void clear() {
        promise = "19 clear";
        PageLevels x = with(2, 1, 7, 3, 2, 7);
        due("none", x.clear(), 0);
        x.write(1, 10);
        x.write(2, 20);
        x.read(3);
        due("each once", x.clear(), 3);
        due("holds nothing", x.pages(0), 0);
        due("memory", x.value(0, 1), 10);
        due("memory", x.value(0, 2), 20);
        x.show(0, 1);
        due("hand", x.says(0, 7), 0);
        due("run", x.status(6), 0);
        due("flushed from 1", x.levelOf(1, 8), 2);
        due("out of 1 by placing alone", x.levelOf(1, 9), 1);
        due("flushed from 2", x.levelOf(2, 8), 2);
        due("out of 2", x.levelOf(2, 9), 0);
        due("slots", x.slot(1, 0, 5), -1);
        PageLevels y = with(1, 1, 3, 1, 2, 3);
        y.mode(0, 2);
        readAll(y, 1, 2);
        due("of both", y.clear(), 2);
    }

    static void levelOf() {
        promise = "20 levelOf";
        PageLevels x = with(2, 7, 4, 3, 9, 8);
        x.write(1, 5);
        readAll(x, 2, 1, 3);
        int[] of1 = {2, 7, 4, 2, 1, 1, 3, 3, 0, 1};
        int[] of2 = {3, 9, 8, 3, 0, 0, 3, 3, 0, 0};
        for (int what = 0; what <= 9; what++) {
            due("1: " + what, x.levelOf(1, what), of1[what]);
            due("2: " + what, x.levelOf(2, what), of2[what]);
        }
        x.clear();
        due("holds", x.levelOf(1, 3), 0);
        due("placed still", x.levelOf(1, 7), 3);
        due("flushed", x.levelOf(1, 8), 1);
        due("level", x.levelOf(0, 0), BAD);
        due("level", x.levelOf(3, 0), BAD);
        due("what", x.levelOf(1, 10), BAD);
        due("what", x.levelOf(1, -1), BAD);
    }

    static void slot() {
        promise = "21 slot";
        PageLevels x = with(3, 1, 4);
        readAll(x, 8);
        x.write(9, 1);
        readAll(x, 8);
        int[] first = {8, 0, 0, 3, 2, 1};
        int[] second = {9, 1, 1, 2, 1, 0};
        for (int what = 0; what <= 5; what++) {
            due("first " + what, x.slot(1, 0, what), first[what]);
            due("second " + what, x.slot(1, 1, what), second[what]);
            due("third " + what, x.slot(1, 2, what), -1);
        }
        due("nothing refused", x.status(12), 0);
        int[][] wrongOnes = {{0, 0, 0}, {2, 0, 0}, {1, -1, 0}, {1, 3, 0}, {1, 0, -1}, {1, 0, 6}, {LOW, LOW, LOW}};
        for (int[] a : wrongOnes) {
            due("slot", x.slot(a[0], a[1], a[2]), BAD);
        }
    }

    static void value() {
        promise = "22 value";
        PageLevels x = with(1, 1, 3, 2, 1, 3);
        x.write(5, STUCK);
        due("memory", x.value(0, 5), 0);
        due("level 1", x.value(1, 5), STUCK);
        due("level 2", x.value(2, 5), 0);
        due("not refused", x.status(15), 0);
        due("it hasn't it", x.value(1, 6), STUCK);
        due("refused", x.status(15), 1);
        due("level", x.value(3, 5), BAD);
        due("level", x.value(-1, 5), BAD);
        due("page", x.value(0, 64), BAD);
        due("page", x.value(1, -1), BAD);
        due("refused", x.status(12), 4);
    }

    static void whereAndPages() {
        promise = "23 where, 24 pages";
        PageLevels x = with(1, 1, 3, 2, 1, 3, 3, 1, 3);
        readAll(x, 0, 63, 5);
        due("where", x.where(5), 7);
        due("where", x.where(63), 6);
        due("where", x.where(0), 4);
        due("where", x.where(1), 0);
        due("page", x.where(64), BAD);
        due("page", x.where(-1), BAD);
        due("pages", x.pages(1), bits(5));
        due("pages", x.pages(2), bits(5, 63));
        due("pages", x.pages(3), bits(0, 5, 63));
        x.mode(0, 2);
        readAll(x, 1, 2);
        due("any", x.pages(0), bits(1, 2));
        due("level", x.pages(4), BAD - BITS);
        due("level", x.pages(-1), BAD - BITS);
        due("refused", x.status(12), 4);
    }

    static void differ() {
        promise = "25 differ";
        PageLevels x = with(2, 1, 3, 4, 1, 3);
        x.write(63, 9);
        x.write(4, 0);
        readAll(x, 5);
        due("values", x.differ(0), bits(63));
        due("dirty", x.differ(1), bits(4, 63));
        due("in two", x.differ(2), bits(4, 5));
        x.write(5, 6);
        due("values", x.differ(0), bits(5, 63));
        x.sweep(1);
        x.sweep(2);
        due("swept", x.differ(0) | x.differ(1), 0);
        due("what", x.differ(3), BAD - BITS);
        due("what", x.differ(-1), BAD - BITS);
        PageLevels y = with(1, 1, 3, 4, 1, 3);
        y.write(3, 1);
        readAll(y, 4);
        due("the nearest that has it", y.differ(0), bits(3));
        due("dirty in 2", y.differ(1), bits(3));
    }

    static void kept() {
        promise = "26 kept";
        PageLevels x = with(3, 1, 3, 1, 1, 3, 2, 1, 3);
        x.tell(0, 2);
        readAll(x, 1, 2, 3, 9, 10);
        due("free", x.kept(), 1);
        for (int mode = 1; mode <= 2; mode++) {
            x.mode(0, mode);
            for (int i = 0; i < 40; i++) {
                x.read(i * 7 % 12);
                due("mode " + mode, x.kept(), 1);
                x.write(i % 5, i);
                due("mode " + mode, x.kept(), 1);
            }
        }
    }

    static void would() {
        promise = "27 would";
        PageLevels x = with(1, 1, 3, 2, 5, 3);
        x.write(1, 10);
        readAll(x, 3);
        x.write(9, 5);
        due("cost", x.would(9, 0), 1);
        due("cost", x.would(3, 0), 6);
        due("cost", x.would(4, 0), 56);
        due("flushed", x.would(4, 1), 1);
        due("flushed", x.would(9, 1), 0);
        due("in none then", x.would(4, 3), 1);
        x.tell(0, 3);
        due("run 2", x.would(10, 2), 3);
        due("in none then", x.would(10, 3), 2);
        due("no run", x.would(12, 2), 0);
        due("nothing changed", x.status(5), 3);
        due("nothing changed", x.pages(1), bits(9));
        due("nothing changed", x.levelOf(1, 6), 3);
        due("page", x.would(-1, 0), BAD);
        due("page", x.would(64, 0), BAD);
        due("what", x.would(0, 4), BAD);
        due("what", x.would(0, -1), BAD);
        PageLevels d = with(2, 1, 8);
        readAll(d, 1, 2);
        due("in none then", d.would(3, 3), 1);
        due("no draw in truth", d.status(11), 1);
        PageLevels e = with(1, 1, 3, 1, 1, 3);
        e.mode(0, 2);
        readAll(e, 1);
        due("handed on, in one still", e.would(2, 3), 0);
        due("without levels", new PageLevels().would(2, 0), 50);
    }

    static void wrongRows(String what, Asked asked) {
        PageLevels x = with(2, 1, 3);
        x.show(0, 1);
        fill(x, 2, 2, 1, 2, 3, 64);
        fill(x, 3, 2, 1, 2, -1, 3);
        fill(x, 4, 3, 1, 1L << 32, 1, 1);
        due(what + ": shelf", asked.of(x, -1, 0), BAD);
        due(what + ": shelf", asked.of(x, 8, 0), BAD);
        due(what + ": n ahead of a rule", asked.of(x, 0, -1), BAD);
        due(what + ": n ahead of nothing", asked.of(x, 1, 41), BAD);
        due(what + ": a rule", asked.of(x, 0, 2), OTHER);
        due(what + ": nothing", asked.of(x, 1, 2), NOTHING);
        due(what + ": fewer", asked.of(x, 2, 5), BAD);
        due(what + ": no page", asked.of(x, 2, 4), BAD);
        due(what + ": no page", asked.of(x, 3, 4), BAD);
        due(what + ": no page", asked.of(x, 4, 2), BAD);
        due(what + ": n", asked.of(x, 2, LOW), BAD);
        due(what + ": n", asked.of(x, 2, HIGH), BAD);
        due(what + ": refused", x.status(12), 10);
        due(what + ": nothing read", x.status(5), 0);
    }

    interface Asked {
        long of(PageLevels x, int s, int n);
    }

    static void wrongRows() {
        promise = "28 to 34: told rows";
        wrongRows("plan", (x, s, n) -> x.plan(s, n, 0));
        wrongRows("rule", (x, s, n) -> x.rule(1, s, n));
        wrongRows("size", (x, s, n) -> x.size(1, s, n, 99));
        wrongRows("modes", (x, s, n) -> x.modes(s, n));
        wrongRows("foresight", (x, s, n) -> x.foresight(s, n, 2));
        wrongRows("reuse", (x, s, n) -> x.reuse(s, n, 0));
        wrongRows("rowOf", (x, s, n) -> x.rowOf(s, n, 0));
        PageLevels x = with(2, 1, 3);
        x.show(0, 1);
        due("bad what ahead of a rule", x.plan(0, 2, 3), BAD);
        due("bad level ahead of a rule", x.rule(2, 0, 2), BAD);
        due("bad most ahead of a rule", x.size(1, 0, 2, -1), BAD);
        due("bad slots ahead of a rule", x.foresight(0, 2, 0), BAD);
        due("bad what ahead of a rule", x.rowOf(0, 2, -1), BAD);
        due("a rule ahead of no i-th", x.reuse(0, 2, 2), OTHER);
        due("a rule, none told", x.modes(0, 0), OTHER);
    }

    static void plan() {
        promise = "28 plan";
        PageLevels x = with(1, 1, 3, 2, 5, 3);
        readAll(x, 1);
        fill(x, 0, 0, 1, 2, 1, 1, 3);
        due("cost", x.plan(0, 5, 0), 1 + 56 + 6 + 1 + 56);
        due("hits in 1", x.plan(0, 5, 1), 2);
        due("to memory", x.plan(0, 5, 2), 2);
        due("fewer", x.plan(0, 2, 0), 57);
        due("none", x.plan(0, 0, 0), 0);
        due("nothing changed", x.status(5), 1);
        due("nothing changed", x.pages(2), bits(1));
        due("often", x.often(1), 1);
        due("past", x.past(1, 0), BAD);
        x.tell(0, 1);
        due("fetching", x.plan(0, 2, 0), 57);
        due("what", x.plan(0, 5, 3), BAD);
        due("what", x.plan(0, 5, -1), BAD);
        x.row(1, 4, 40);
        x.set(1, 39, 1);
        due("booleans are pages 0 and 1", x.plan(1, 40, 0), 56 + 38 + 6);
        PageLevels none = new PageLevels();
        fill(none, 0, 1, 3, 3);
        due("without levels", none.plan(0, 2, 0), 100);
        due("without levels", none.plan(0, 2, 1), 0);
        due("without levels", none.plan(0, 2, 2), 2);
    }

    static void rule() {
        promise = "29 rule";
        PageLevels x = with(3, 1, 8);
        fill(x, 0, 2, 1, 2, 3, 4, 1, 2, 3, 4, 1, 2, 3, 4);
        due("a loop wants the latest out", x.rule(1, 0, 12), 5);
        due("all the same: the least", x.rule(1, 0, 4), 3);
        due("none told", x.rule(1, 0, 0), 3);
        fill(x, 1, 2, 1, 2, 3, 1, 4, 1, 5, 1, 6, 1);
        due("late keeps 1", x.rule(1, 1, 10), 4);
        readAll(x, 4, 3, 2);
        due("from swept out on", x.rule(1, 0, 12), 5);
        due("nothing changed", x.pages(1), bits(4, 3, 2));
        due("nothing changed", x.levelOf(1, 2), 8);
        due("seed", x.status(11), 1);
        due("level", x.rule(0, 0, 1), BAD);
        due("level", x.rule(2, 0, 1), BAD);
        due("level ahead of other", x.rule(2, 7, 1), BAD);
        due("no levels", new PageLevels().rule(1, 0, 0), BAD);
    }

    static void size() {
        promise = "30 size";
        PageLevels x = with(2, 1, 4);
        fill(x, 0, 2, 1, 2, 3, 1, 2, 3, 1, 2, 3);
        due("all but three hits", x.size(1, 0, 9, 159), 3);
        due("none is less", x.size(1, 0, 9, 158), -1);
        due("any", x.size(1, 0, 9, 459), 1);
        due("nearly any", x.size(1, 0, 9, 458), 3);
        due("none told", x.size(1, 0, 0, 0), 1);
        fill(x, 1, 2, 1, 2, 3, 4, 5, 6, 7, 8, 9, 10, 11, 12, 13, 14, 15, 16, 1);
        due("the largest", x.size(1, 1, 17, 817), 16);
        readAll(x, 1, 2);
        due("from swept out on", x.size(1, 0, 9, 158), -1);
        due("nothing changed", x.levelOf(1, 0), 2);
        due("nothing changed", x.pages(1), bits(1, 2));
        due("most", x.size(1, 0, 9, -1), BAD);
        due("most ahead of nothing", x.size(1, 7, 9, -1), BAD);
        due("most", x.size(1, 0, 9, LOW), BAD);
        due("level", x.size(0, 0, 9, 0), BAD);
        due("level", x.size(2, 0, 9, 0), BAD);
        due("refused", x.status(12), 5);
    }

    static void modes() {
        promise = "31 modes";
        PageLevels x = with(1, 1, 4, 1, 5, 4);
        fill(x, 0, 2, 1, 2, 1, 2, 1, 2);
        due("exclusive holds two", x.modes(0, 6), 4);
        due("all", x.modes(0, 2), 7);
        due("none told", x.modes(0, 0), 7);
        x.mode(0, 1);
        readAll(x, 1);
        due("from swept out on", x.modes(0, 6), 4);
        due("nothing changed", x.status(1), 1);
        due("nothing changed", x.pages(0), bits(1));
        PageLevels y = with(3, 1, 4, 1, 5, 4);
        fill(y, 0, 2, 1, 2, 1, 2);
        due("inclusive drives out", y.modes(0, 4), 5);
        PageLevels none = new PageLevels();
        fill(none, 0, 2, 1, 2);
        due("without levels", none.modes(0, 2), 7);
    }

    static void foresight() {
        promise = "32 foresight";
        PageLevels x = new PageLevels();
        fill(x, 0, 2, 1, 2, 3, 4, 1, 2, 5, 1, 2, 3, 4, 5);
        due("3 slots", x.foresight(0, 12, 3), 5);
        due("4 slots", x.foresight(0, 12, 4), 6);
        due("1 slot", x.foresight(0, 12, 1), 0);
        due("16 slots", x.foresight(0, 12, 16), 7);
        due("none", x.foresight(0, 0, 1), 0);
        fill(x, 1, 2, 7, 7, 7);
        due("1 slot", x.foresight(1, 3, 1), 2);
        due("slots", x.foresight(1, 3, 0), BAD);
        due("slots", x.foresight(7, 3, 17), BAD);
    }

    static void reuseAndRowOf() {
        promise = "33 reuse, 34 rowOf";
        PageLevels x = new PageLevels();
        fill(x, 0, 2, 4, 2, 2, 4, 63, 0, 63, 4);
        int[] reuse = {-1, -1, 0, 1, -1, -1, 1, 2};
        for (int i = 0; i < 8; i++) {
            due("reuse of " + i, x.reuse(0, 8, i), reuse[i]);
        }
        due("no i-th", x.reuse(0, 8, 8), BAD);
        due("no i-th", x.reuse(0, 3, 3), BAD);
        due("no i-th", x.reuse(0, 8, -1), BAD);
        due("no i-th", x.reuse(0, 0, 0), BAD);
        due("nothing ahead of i", x.reuse(1, 8, -1), NOTHING);
        due("pages", x.rowOf(0, 8, 0), 4);
        due("greatest reuse", x.rowOf(0, 8, 1), 2);
        due("most often", x.rowOf(0, 8, 2), 4);
        due("of several the least", x.rowOf(0, 4, 2), 2);
        due("no reuse", x.rowOf(0, 2, 1), -1);
        due("none told", x.rowOf(0, 0, 0), 0);
        due("none told", x.rowOf(0, 0, 1), -1);
        due("none told", x.rowOf(0, 0, 2), -1);
        due("none isn't refused", x.status(12), 4);
        due("what", x.rowOf(0, 8, 3), BAD);
        due("what", x.rowOf(0, 8, -1), BAD);
    }

    static void judge() {
        promise = "35 judge";
        PageLevels x = with(1, 1, 3, 2, 1, 3);
        readAll(x, 5);
        fill(x, 0, 2, 5, 1, 6, 0, 5, 2, 6, 2, 6, 1, 7, 0);
        due("all so", x.judge(0, 6), -1);
        due("none told", x.judge(0, 0), -1);
        x.set(0, 9, 2);
        due("the fifth isn't", x.judge(0, 6), 4);
        due("not told", x.judge(0, 4), -1);
        x.set(0, 1, 99);
        due("a level that isn't there", x.judge(0, 6), 0);
        x.set(0, 1, -1);
        due("a level that isn't there", x.judge(0, 6), 0);
        due("nothing changed", x.status(5), 1);
        due("n", x.judge(0, 7), BAD);
        due("n", x.judge(0, 21), BAD);
        due("n ahead of nothing", x.judge(7, -1), BAD);
        due("nothing", x.judge(7, 0), NOTHING);
        x.show(6, 1);
        due("a rule", x.judge(6, 0), OTHER);
        due("shelf", x.judge(8, 0), BAD);
        x.set(0, 10, 64);
        due("no page, though the first isn't so", x.judge(0, 6), BAD);
        due("not told", x.judge(0, 5), 0);
        fill(x, 1, 2, 5, 1, 6);
        due("half a two", x.judge(1, 2), BAD);
        x.row(2, 0, 40);
        due("20 twos", x.judge(2, 20), 1);
        PageLevels l = with(1, 1, 3);
        fill(l, 0, 3, 3, 1L << 32);
        due("a long isn't 0", l.judge(0, 1), 0);
    }

    static void past() {
        promise = "36 past";
        PageLevels x = with(1, 1, 3, 2, 5, 3);
        due("none kept", x.past(0, 0), BAD);
        x.write(9, 3);
        readAll(x, 4, 9);
        x.write(9, 4);
        int[][] wanted = {{9, 1, 1, 1}, {9, 0, 6, 2}, {4, 0, 56, 0}, {9, 1, 56, 0}};
        for (int i = 0; i < 4; i++) {
            for (int what = 0; what < 4; what++) {
                due(i + ": " + what, x.past(i, what), wanted[i][what]);
            }
        }
        due("none kept", x.past(4, 0), BAD);
        due("what", x.past(0, 4), BAD);
        due("what", x.past(0, -1), BAD);
        due("i", x.past(-1, 0), BAD);
        for (int page = 0; page < 40; page++) {
            x.read(page);
        }
        for (int i = 0; i < 20; i++) {
            due("late ones", x.past(i, 0), 39 - i);
        }
        due("20 are kept", x.past(20, 0), BAD);
        due("i", x.past(HIGH, 0), BAD);
        due("i", x.past(LOW, 0), BAD);
    }

    static void often() {
        promise = "37 often";
        PageLevels x = with(1, 1, 3);
        readAll(x, 0, 63, 0);
        x.write(0, 1);
        traffic(x, "r63 w0=2");
        due("of 0", x.often(0), 4);
        due("of 63", x.often(63), 2);
        due("of 1", x.often(1), 0);
        due("page", x.often(64), BAD);
        due("page", x.often(-1), BAD);
    }

    /** DAYS by hand: what they draw, from a SEED on. */
    static int draw(int[] seed, int n) {
        seed[0] = nextSeed(seed[0]);
        return drawn(seed[0], n);
    }

    static void days() {
        promise = "38 days";
        PageLevels x = new PageLevels();
        due("n", x.days(0), BAD);
        due("n", x.days(61), BAD);
        due("n", x.days(-1), BAD);
        int[] seed = {1};
        int page = 0;
        for (int day = 0; day < 100; day++) {
            boolean write = draw(seed, 4) == 0;
            page = draw(seed, 3) == 0 ? draw(seed, 64) : page == 63 ? 0 : page + 1;
            int v = write ? draw(seed, 100) : 0;
            due("cost", x.days(1), 50);
            due("page", x.past(0, 0), page);
            due("a write", x.past(0, 1), write ? 1 : 0);
            due("value", write ? x.value(0, page) : 0, v);
            due("seed", x.status(11), seed[0]);
        }
        PageLevels y = new PageLevels();
        due("60 at once", y.days(60), 3000);
        due("40 more", y.days(40), 2000);
        due("the same draws", y.status(11), seed[0]);
        due("the same page", y.past(0, 0), page);
        PageLevels z = new PageLevels();
        z.read(40);
        z.days(1);
        PageLevels w = new PageLevels();
        w.days(1);
        due("a read between doesn't count", z.past(0, 0), w.past(0, 0));
        PageLevels d = with(2, 1, 8, 3, 2, 3);
        int cost = d.days(60);
        due("cost, all together", cost, d.status(9));
        due("turns", d.status(5), 60);
    }

    static void seed() {
        promise = "39 seed";
        PageLevels x = new PageLevels();
        due("at first", x.seed(LOW), 1);
        due("then", x.seed(-1), LOW);
        due("status", x.status(11), -1);
    }

    static void image() {
        promise = "40 image, 41 back";
        PageLevels x = with(2, 1, 7, 3, 2, 8);
        due("none kept", x.back(), STUCK);
        x.tell(0, 2);
        x.mode(0, 2);
        x.write(1, 10);
        x.days(9);
        feedAll(x, "r1");
        x.show(0, 2);
        x.row(1, 2, 3);
        due("image", x.image(), 1);
        long[] was = state(x);
        x.days(30);
        x.drop();
        x.mode(0, 1);
        x.mode(1, 1);
        x.tell(1, 7);
        x.tell(0, 0);
        x.seed(5);
        x.level(9, 9, 3);
        x.level(9, 9, 3);
        x.show(2, 3);
        x.show(3, 1);
        x.days(30);
        x.feed(32);
        x.set(1, 0, 5);
        int refused = x.status(12);
        x.read(-1);
        due("back", x.back(), 1);
        long[] is = state(x);
        for (int i = 0; i < was.length; i++) {
            due("as it was " + i, is[i], was[i]);
        }
        due("the tape isn't kept", x.status(10), 3);
        due("shelves aren't kept", x.element(1, 0), 5);
        due("refusals aren't kept", x.status(12), refused + 1);
        due("a shelf of a level that isn't", x.holds(2), -1);
        due("a shelf of a level that is", x.holds(3), 11);
        due("and says", x.says(3, 0), 7);
        due("dropped ahead", x.holds(0), -1);
        int cost = x.days(20);
        long[] later = state(x);
        due("back again", x.back(), 1);
        due("the same days", x.days(20), cost);
        long[] again = state(x);
        for (int i = 0; i < later.length; i++) {
            due("the same " + i, again[i], later[i]);
        }
        due("another image", x.image(), 1);
        x.read(3);
        x.back();
        due("the later one", x.status(5), (int) later[5]);
    }

    /** What status, LEVELS, SLOTS and MEMORY tell. */
    static long[] state(PageLevels x) {
        long[] state = new long[300];
        for (int what = 0; what < 10; what++) {
            state[what] = x.status(what);
            state[10 + what] = x.levelOf(1, what);
            state[20 + what] = x.levelOf(2, what);
        }
        state[30] = x.status(11);
        state[31] = x.pages(0);
        for (int slot = 0; slot < 2; slot++) {
            for (int what = 0; what < 6; what++) {
                state[32 + slot * 6 + what] = x.slot(1, slot, what);
            }
        }
        for (int page = 0; page < 20; page++) {
            state[50 + page] = x.value(0, page);
            state[80 + page] = x.often(page);
            state[120 + page] = x.past(page % 10, page % 4);
        }
        return state;
    }

    static void status() {
        promise = "42 status";
        PageLevels x = with(2, 1, 3);
        x.mode(0, 1);
        x.mode(1, 1);
        x.tell(0, 4);
        x.tell(1, 30);
        readAll(x, 1, 2);
        x.write(2, 1);
        feedAll(x, "abc");
        x.seed(77);
        x.read(64);
        x.read(64);
        x.read(64);
        x.show(3, 1);
        x.set(3, 0, 0);
        x.set(3, 0, 0);
        x.set(4, 0, 0);
        x.value(1, 60);
        x.back();
        x.level(1, 1, 3);
        x.level(1, 1, 3);
        x.level(1, 1, 3);
        x.level(1, 1, 3);
        x.row(5, 1, 1);
        int[] wanted = {4, 1, 1, 4, 30, 3, 0, 4, 1, 93, 3, 77, 3, 2, 1, 2, 1, 2};
        for (int what = 0; what < wanted.length; what++) {
            due("status " + what, x.status(what), wanted[what]);
        }
        due("another", x.status(18), -1);
        due("another", x.status(-1), -1);
        due("another", x.status(LOW), -1);
        due("another", x.status(HIGH), -1);
        due("not refused", x.status(12), 3);
    }

    public static void main(String[] args) {
        newObject();
        row();
        set();
        copy();
        element();
        holds();
        show();
        says();
        feed();
        wipe();
        faults();
        traffic();
        level();
        drop();
        mode();
        tell();
        read();
        victims();
        free();
        inclusive();
        exclusive();
        ahead();
        write();
        sweep();
        clear();
        levelOf();
        slot();
        value();
        whereAndPages();
        differ();
        kept();
        would();
        wrongRows();
        plan();
        rule();
        size();
        modes();
        foresight();
        reuseAndRowOf();
        judge();
        past();
        often();
        days();
        seed();
        image();
        status();
        System.out.println(checks + " answers, " + wrong + " not as due");
        if (wrong != 0) {
            System.exit(1);
        }
    }
}
