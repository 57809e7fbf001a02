/**
 * Levels of pages: caches behind one another ahead of a memory. The words in
 * capitals are those of the document.
 */
public final class PageLevels {
    public static final int NONE = -1;

    private static final int BAD = -52;
    private static final int OTHER = -53;
    private static final int NOTHING = -54;
    private static final int STUCK = -55;
    private static final int FULL = -56;
    private static final int FINE = 0;
    private static final int REFUSAL_KINDS = 5;
    /** The STATUS that tells how many of the first of the REFUSALS there were. */
    private static final int FIRST_REFUSAL = 12;
    private static final int FAULTY = -800;
    private static final long REFUSED_BITS = 9_000_000_000_000_000_000L;

    private static final int PAGES = 64;
    private static final int MOST_LEVELS = 4;
    private static final int MOST_SLOTS = 16;
    private static final int MOST_COST = 99;
    private static final int MOST_MEMORY_COST = 999;
    private static final int MOST_AHEAD = 8;
    private static final int MOST_DAYS = 60;
    private static final int KEPT_PAST = 20;

    private static final int FREE = 0;
    private static final int INCLUSIVE = 1;
    private static final int EXCLUSIVE = 2;
    private static final int THROUGH = 1;

    private static final int RULE = 0;
    private static final int NOTED = 1;
    private static final int ROUND = 2;
    private static final int FIRST = 3;
    private static final int LATE = 4;
    private static final int LATEST = 5;
    private static final int RAREST = 6;
    private static final int CLOCK = 7;
    private static final int DRAWN = 8;
    /** The KIND that each KIND is under. */
    private static final int[] UNDER = {NONE, RULE, RULE, NOTED, NOTED, LATE, LATE, ROUND, ROUND};

    private static final int SHELVES = 8;
    private static final int MOST_ELEMENTS = 40;
    private static final int MOST_TWOS = 20;
    private static final int BOOLEANS = 4;
    private static final int SHOWN = 10;

    private final Store now = new Store();
    /** READS that are only asked for are done here, so that nothing changes. */
    private final Store thought = new Store();
    private final Store imaged = new Store();
    private boolean hasImage;
    private final Tape tape = new Tape();
    private final Shelf[] shelves = new Shelf[SHELVES];
    private final int[] refusals = new int[REFUSAL_KINDS];
    /** PAGES of the ROW that is asked about. */
    private final int[] told = new int[MOST_ELEMENTS];

    public PageLevels() {
        for (int s = 0; s < shelves.length; s++) {
            shelves[s] = new Shelf();
        }
    }

    // ---- SHELVES

    public int row(int s, int sort, int n) {
        Shelf shelf = shelfAt(s);
        if (shelf == null || !isWithin(sort, 0, BOOLEANS) || !isWithin(n, 0, MOST_ELEMENTS)) {
            return refuse(BAD);
        }
        shelf.holdRow(sort, n);
        return 1;
    }

    public int set(int s, int i, long v) {
        Shelf shelf = shelfAt(s);
        int refusal = rowRefusal(shelf);
        if (refusal != FINE) {
            return refuse(refusal);
        }
        if (shelf == null || !shelf.hasElement(i)) {
            return refuse(BAD);
        }
        shelf.putElement(i, v);
        return 1;
    }

    public int copy(int p, int q, int i, int j, int n) {
        Shelf from = shelfAt(p);
        Shelf to = shelfAt(q);
        if (from == null || to == null) {
            return refuse(BAD);
        }
        boolean unlike = from.isRow() && to.isRow() && from.sort != to.sort;
        if (from.isRule() || to.isRule() || unlike) {
            return refuse(OTHER);
        }
        if (!from.isRow() || !to.isRow()) {
            return refuse(NOTHING);
        }
        if (!from.hasElements(i, n) || !to.hasElements(j, n)) {
            return refuse(BAD);
        }
        System.arraycopy(from.elements, i, to.elements, j, n);
        return n;
    }

    public long element(int s, int i) {
        Shelf shelf = shelfAt(s);
        return shelf == null ? 0 : shelf.elementAt(i);
    }

    public int holds(int s) {
        Shelf shelf = shelfAt(s);
        if (shelf == null) {
            return NONE;
        }
        return shelf.isRule() ? SHOWN + shelf.shownLevel : shelf.sort;
    }

    public int show(int s, int level) {
        Shelf shelf = shelfAt(s);
        if (shelf == null || level != NONE && !isWithin(level, 1, now.count)) {
            return refuse(BAD);
        }
        if (level == NONE) {
            shelf.holdNothing();
        } else {
            shelf.holdRule(level);
        }
        return 1;
    }

    public int says(int s, int kind) {
        Shelf shelf = shelfAt(s);
        if (shelf == null || !isWithin(kind, RULE, DRAWN)) {
            return refuse(BAD);
        }
        if (shelf.isRow()) {
            return refuse(OTHER);
        }
        Level level = now.levelAt(shelf.shownLevel);
        if (level == null) {
            return refuse(NOTHING);
        }
        if (!isUnder(level.kind, kind)) {
            return refuse(OTHER);
        }
        return level.saysAs(kind);
    }

    // ---- THE TAPE

    public int feed(int letter) {
        if (!isWithin(letter, 0, 255)) {
            return refuse(BAD);
        }
        if (tape.isFull()) {
            return refuse(FULL);
        }
        tape.append(letter);
        return tape.size;
    }

    public int wipe() {
        int ahead = tape.size;
        tape.size = 0;
        return ahead;
    }

    public int traffic() {
        int fault = tape.findFault(now.count);
        tape.size = 0;
        if (fault != NONE) {
            refuse(BAD);
            return FAULTY - fault;
        }
        int cost = 0;
        for (int part = 0; part < tape.parts; part++) {
            cost += doPart(part);
        }
        return cost;
    }

    private int doPart(int part) {
        int letter = tape.letterOf(part);
        int number = tape.numberOf(part);
        if (letter == 'r') {
            return now.access(number, false, 0);
        }
        if (letter == 'w') {
            return now.access(number, true, tape.valueOf(part));
        }
        if (letter == 's') {
            now.sweepLevel(number);
        }
        if (letter == 'a') {
            now.ahead = number;
        }
        return 0;
    }

    // ---- LEVELS

    public int level(int size, int cost, int kind) {
        if (!isWithin(size, 1, MOST_SLOTS) || !isWithin(cost, 0, MOST_COST) || !isWithin(kind, FIRST, DRAWN)) {
            return refuse(BAD);
        }
        if (now.count >= MOST_LEVELS) {
            return refuse(FULL);
        }
        now.sweepOut();
        now.count++;
        Level added = now.levelAt(now.count);
        if (added != null) {
            added.begin(size, cost, kind);
        }
        return now.count;
    }

    public int drop() {
        if (now.count <= 0) {
            return refuse(STUCK);
        }
        now.sweepOut();
        now.count--;
        forgetRules();
        return now.count;
    }

    /** SHELVES with RULES of LEVELS that are no more hold NOTHING. */
    private void forgetRules() {
        for (int s = 0; s < SHELVES; s++) {
            Shelf shelf = shelfAt(s);
            if (shelf != null && shelf.shownLevel > now.count) {
                shelf.holdNothing();
            }
        }
    }

    public int mode(int what, int v) {
        if (!isWithin(what, 0, 1) || !isWithin(v, 0, what == 0 ? EXCLUSIVE : THROUGH)) {
            return refuse(BAD);
        }
        now.sweepOut();
        int was;
        if (what == 0) {
            was = now.mode;
            now.mode = v;
        } else {
            was = now.writes;
            now.writes = v;
        }
        return was;
    }

    public int tell(int what, int v) {
        if (!isWithin(what, 0, 1) || !isWithin(v, 0, what == 0 ? MOST_AHEAD : MOST_MEMORY_COST)) {
            return refuse(BAD);
        }
        int was;
        if (what == 0) {
            was = now.ahead;
            now.ahead = v;
        } else {
            was = now.memoryCost;
            now.memoryCost = v;
        }
        return was;
    }

    public int read(int page) {
        if (!isPage(page)) {
            return refuse(BAD);
        }
        now.access(page, false, 0);
        return now.got;
    }

    public int write(int page, int v) {
        if (!isPage(page)) {
            return refuse(BAD);
        }
        return now.access(page, true, v);
    }

    public int sweep(int level) {
        if (!isWithin(level, 1, now.count)) {
            return refuse(BAD);
        }
        return now.sweepLevel(level);
    }

    public int clear() {
        int were = Long.bitCount(now.pagesIn(0));
        now.sweepOut();
        return were;
    }

    public int levelOf(int level, int what) {
        Level asked = now.levelAt(level);
        if (asked == null || !isWithin(what, 0, 9)) {
            return refuse(BAD);
        }
        return asked.tells(what);
    }

    public int slot(int level, int slot, int what) {
        Level asked = now.levelAt(level);
        if (asked == null || !isWithin(slot, 0, asked.size - 1) || !isWithin(what, 0, 5)) {
            return refuse(BAD);
        }
        return asked.tellsSlot(slot, what);
    }

    public int value(int level, int page) {
        if (!isWithin(level, 0, now.count) || !isPage(page)) {
            return refuse(BAD);
        }
        if (level == 0) {
            return now.inMemory(page);
        }
        Level asked = now.levelAt(level);
        if (asked == null || asked.slotOf(page) == NONE) {
            return refuse(STUCK);
        }
        return asked.valueIn(asked.slotOf(page));
    }

    public int where(int page) {
        if (!isPage(page)) {
            return refuse(BAD);
        }
        return now.levelsWith(page);
    }

    public long pages(int level) {
        if (!isWithin(level, 0, now.count)) {
            return refuse(BAD) - REFUSED_BITS;
        }
        return now.pagesIn(level);
    }

    public long differ(int what) {
        if (!isWithin(what, 0, 2)) {
            return refuse(BAD) - REFUSED_BITS;
        }
        long bits = 0;
        for (int page = 0; page < PAGES; page++) {
            if (now.differs(page, what)) {
                bits |= 1L << page;
            }
        }
        return bits;
    }

    public int kept() {
        return now.keepsMode() ? 1 : 0;
    }

    // ---- what is asked

    public int would(int page, int what) {
        if (!isPage(page) || !isWithin(what, 0, 3)) {
            return refuse(BAD);
        }
        thought.takeFrom(now);
        int cost = thought.access(page, false, 0);
        if (what == 0) {
            return cost;
        }
        if (what == 1) {
            return thought.flushedInAll() - now.flushedInAll();
        }
        if (what == 2) {
            return thought.fetched - now.fetched;
        }
        return Long.bitCount(now.pagesIn(0) & ~thought.pagesIn(0));
    }

    public int plan(int s, int n, int what) {
        int refusal = hear(s, n, isWithin(what, 0, 2));
        if (refusal != FINE) {
            return refusal;
        }
        thought.takeFrom(now);
        int cost = 0;
        int near = 0;
        int far = 0;
        for (int i = 0; i < n; i++) {
            cost += thought.access(toldAt(i), false, 0);
            near += thought.from == 1 ? 1 : 0;
            far += thought.from == 0 ? 1 : 0;
        }
        if (what == 0) {
            return cost;
        }
        return what == 1 ? near : far;
    }

    public int rule(int level, int s, int n) {
        int refusal = hear(s, n, isWithin(level, 1, now.count));
        if (refusal != FINE) {
            return refusal;
        }
        int best = NONE;
        int least = 0;
        for (int kind = FIRST; kind <= DRAWN; kind++) {
            thinkSweptOut();
            Level asked = thought.levelAt(level);
            if (asked != null) {
                asked.kind = kind;
            }
            int cost = costInThought(n);
            if (best == NONE || cost < least) {
                best = kind;
                least = cost;
            }
        }
        return best;
    }

    public int size(int level, int s, int n, int most) {
        int refusal = hear(s, n, isWithin(level, 1, now.count) && most >= 0);
        if (refusal != FINE) {
            return refusal;
        }
        for (int slots = 1; slots <= MOST_SLOTS; slots++) {
            thinkSweptOut();
            Level asked = thought.levelAt(level);
            if (asked != null) {
                asked.size = slots;
            }
            if (costInThought(n) <= most) {
                return slots;
            }
        }
        return NONE;
    }

    public int modes(int s, int n) {
        int refusal = hear(s, n, true);
        if (refusal != FINE) {
            return refusal;
        }
        int bits = 0;
        int least = 0;
        for (int tried = FREE; tried <= EXCLUSIVE; tried++) {
            thinkSweptOut();
            thought.mode = tried;
            int cost = costInThought(n);
            if (bits == 0 || cost < least) {
                bits = 0;
                least = cost;
            }
            if (cost == least) {
                bits |= 1 << tried;
            }
        }
        return bits;
    }

    public int foresight(int s, int n, int slots) {
        int refusal = hear(s, n, isWithin(slots, 1, MOST_SLOTS));
        if (refusal != FINE) {
            return refusal;
        }
        return hitsByForesight(n, slots);
    }

    public int reuse(int s, int n, int i) {
        int refusal = hear(s, n, true);
        if (refusal != FINE) {
            return refusal;
        }
        if (!isWithin(i, 0, n - 1)) {
            return refuse(BAD);
        }
        return reuseOf(i);
    }

    public int rowOf(int s, int n, int what) {
        int refusal = hear(s, n, isWithin(what, 0, 2));
        if (refusal != FINE) {
            return refusal;
        }
        if (what == 0) {
            return Long.bitCount(pagesTold(0, n));
        }
        return what == 1 ? greatestReuse(n) : oftenestTold(n);
    }

    public int judge(int s, int n) {
        if (!isWithin(n, 0, MOST_TWOS)) {
            return refuse(BAD);
        }
        int refusal = listen(s, n, 2);
        if (refusal != FINE) {
            return refuse(refusal);
        }
        thought.takeFrom(now);
        for (int i = 0; i < n; i++) {
            thought.access(toldAt(i), false, 0);
            if (element(s, 2 * i + 1) != thought.from) {
                return i;
            }
        }
        return NONE;
    }

    // ---- what was, and what comes by draws

    public int past(int i, int what) {
        if (!isWithin(i, 0, KEPT_PAST - 1) || i >= now.turn || !isWithin(what, 0, 3)) {
            return refuse(BAD);
        }
        return now.history.tells(now.turn - i, what);
    }

    public int often(int page) {
        if (!isPage(page)) {
            return refuse(BAD);
        }
        return now.history.timesOf(page);
    }

    public int days(int n) {
        if (!isWithin(n, 1, MOST_DAYS)) {
            return refuse(BAD);
        }
        int cost = 0;
        for (int day = 0; day < n; day++) {
            boolean writing = now.draws.drawBelow(4) == 0;
            int page = now.draws.drawPage();
            int v = writing ? now.draws.drawBelow(100) : 0;
            cost += now.access(page, writing, v);
        }
        return cost;
    }

    public int seed(int v) {
        int ahead = now.draws.seed;
        now.draws.seed = v;
        return ahead;
    }

    public int image() {
        imaged.takeFrom(now);
        hasImage = true;
        return 1;
    }

    public int back() {
        if (!hasImage) {
            return refuse(STUCK);
        }
        now.takeFrom(imaged);
        forgetRules();
        return 1;
    }

    public int status(int what) {
        int refusal = what - FIRST_REFUSAL;
        if (isWithin(refusal, 0, refusals.length - 1)) {
            return refusals[refusal];
        }
        switch (what) {
            case 0: return now.count;
            case 1: return now.mode;
            case 2: return now.writes;
            case 3: return now.ahead;
            case 4: return now.memoryCost;
            case 5: return now.turn;
            case 6: return now.run;
            case 7: return now.fetched;
            case 8: return now.toMemory;
            case 9: return now.allCost;
            case 10: return tape.size;
            case 11: return now.draws.seed;
            case 17: return fullShelves();
            default: return NONE;
        }
    }

    // ---- numbers, REFUSALS, SHELVES

    private static boolean isWithin(int number, int least, int most) {
        return number >= least && number <= most;
    }

    private static boolean isPage(int page) {
        return page >= 0 && page < PAGES;
    }

    /** Whether a KIND is another one, or under it. */
    private static boolean isUnder(int kind, int upper) {
        int at = kind;
        for (int gone = 0; gone < UNDER.length && isWithin(at, 0, UNDER.length - 1); gone++) {
            if (at == upper) {
                return true;
            }
            at = UNDER[at];
        }
        return false;
    }

    private int refuse(int number) {
        int kind = BAD - number;
        if (isWithin(kind, 0, refusals.length - 1)) {
            refusals[kind]++;
        }
        return number;
    }

    private Shelf shelfAt(int s) {
        return isWithin(s, 0, shelves.length - 1) ? shelves[s] : null;
    }

    private int fullShelves() {
        int full = 0;
        for (int s = 0; s < SHELVES; s++) {
            full += holds(s) == NONE ? 0 : 1;
        }
        return full;
    }

    /** FINE, or why a SHELF has no ROW. */
    private static int rowRefusal(Shelf shelf) {
        if (shelf == null) {
            return BAD;
        }
        if (shelf.isRule()) {
            return OTHER;
        }
        return shelf.isRow() ? FINE : NOTHING;
    }

    /** FINE, and then the told ROW is heard; or what is refused. */
    private int hear(int s, int n, boolean othersMayBe) {
        if (!othersMayBe || !isWithin(n, 0, MOST_ELEMENTS)) {
            return refuse(BAD);
        }
        int refusal = listen(s, n, 1);
        return refusal == FINE ? FINE : refuse(refusal);
    }

    /** FINE, and then n PAGES are told, one of every step elements of a ROW; or why they can't be. */
    private int listen(int s, int n, int step) {
        Shelf shelf = shelfAt(s);
        int refusal = rowRefusal(shelf);
        if (shelf == null || refusal != FINE) {
            return refusal;
        }
        if (!shelf.hasElements(0, n * step)) {
            return BAD;
        }
        for (int i = 0; i < n && i < told.length; i++) {
            long page = shelf.elementAt(i * step);
            if (page < 0 || page >= PAGES) {
                return BAD;
            }
            told[i] = (int) page;
        }
        return FINE;
    }

    private int toldAt(int i) {
        return isWithin(i, 0, told.length - 1) ? told[i] : NONE;
    }

    // ---- READS in thought

    private void thinkSweptOut() {
        thought.takeFrom(now);
        thought.sweepOut();
    }

    /** The COST of the first n PAGES told, READ in thought from there on. */
    private int costInThought(int n) {
        int cost = 0;
        for (int i = 0; i < n; i++) {
            cost += thought.access(toldAt(i), false, 0);
        }
        return cost;
    }

    /** PAGES (bits) told at places from one on, ahead of another. */
    private long pagesTold(int from, int behind) {
        long bits = 0;
        for (int i = from; i < behind; i++) {
            bits |= 1L << toldAt(i);
        }
        return bits;
    }

    private int reuseOf(int i) {
        for (int ahead = i - 1; ahead >= 0; ahead--) {
            if (toldAt(ahead) == toldAt(i)) {
                return Long.bitCount(pagesTold(ahead + 1, i));
            }
        }
        return NONE;
    }

    private int greatestReuse(int n) {
        int greatest = NONE;
        for (int i = 0; i < n; i++) {
            greatest = Math.max(greatest, reuseOf(i));
        }
        return greatest;
    }

    private int oftenestTold(int n) {
        int oftenest = NONE;
        int most = 0;
        for (int page = 0; page < PAGES; page++) {
            int times = 0;
            for (int i = 0; i < n; i++) {
                times += toldAt(i) == page ? 1 : 0;
            }
            if (times > most) {
                oftenest = page;
                most = times;
            }
        }
        return oftenest;
    }

    private int hitsByForesight(int n, int slots) {
        long held = 0;
        int hits = 0;
        for (int i = 0; i < n; i++) {
            long bit = 1L << toldAt(i);
            if ((held & bit) != 0) {
                hits++;
            } else {
                if (Long.bitCount(held) >= slots) {
                    held &= ~(1L << toldLatest(held, i + 1, n));
                }
                held |= bit;
            }
        }
        return hits;
    }

    /** Of PAGES (bits) the one that is told again latest from a place on, or never. */
    private int toldLatest(long held, int from, int n) {
        int latest = 0;
        int greatest = NONE;
        for (int page = 0; page < PAGES; page++) {
            if ((held >>> page & 1) == 1) {
                int next = from;
                while (next < n && toldAt(next) != page) {
                    next++;
                }
                if (next > greatest) {
                    latest = page;
                    greatest = next;
                }
            }
        }
        return latest;
    }

    /** A SHELF: NOTHING, a ROW, or the RULE of a LEVEL. */
    private static final class Shelf {
        /** The SORT of the ROW; NONE: no ROW. */
        int sort = NONE;
        /** The number of the LEVEL whose RULE it is; NONE: no RULE. */
        int shownLevel = NONE;
        int length;
        final long[] elements = new long[MOST_ELEMENTS];

        boolean isRow() {
            return sort != NONE;
        }

        boolean isRule() {
            return shownLevel != NONE;
        }

        void holdNothing() {
            sort = NONE;
            shownLevel = NONE;
            length = 0;
        }

        void holdRule(int level) {
            holdNothing();
            shownLevel = level;
        }

        void holdRow(int newSort, int n) {
            holdNothing();
            sort = newSort;
            length = n;
            for (int i = 0; i < elements.length; i++) {
                elements[i] = 0;
            }
        }

        boolean hasElement(int i) {
            return isWithin(i, 0, length - 1) && i < elements.length;
        }

        /** Whether there are n elements from place i on. */
        boolean hasElements(int i, int n) {
            return i >= 0 && n >= 0 && i <= length && n <= length - i;
        }

        long elementAt(int i) {
            return hasElement(i) ? elements[i] : 0;
        }

        void putElement(int i, long v) {
            if (hasElement(i)) {
                elements[i] = lowestBits(v);
            }
        }

        private long lowestBits(long v) {
            switch (sort) {
                case 0: return (byte) v;
                case 1: return (short) v;
                case 2: return (int) v;
                case BOOLEANS: return v == 0 ? 0 : 1;
                default: return v;
            }
        }
    }

    /** THE TAPE, and the parts of the TRAFFIC that was read from it. */
    private static final class Tape {
        private static final int MOST_BYTES = 250;
        private static final int MOST_PARTS = 30;
        private static final int MOST_DIGITS = 3;
        private static final int MOST_VALUE = 999;
        private static final int BLANK = 32;

        int size;
        int parts;
        private final int[] bytes = new int[MOST_BYTES];
        private final int[] letters = new int[MOST_PARTS];
        private final int[] numbers = new int[MOST_PARTS];
        private final int[] values = new int[MOST_PARTS];
        /** Where it is read, and the number that was read last. */
        private int at;
        private int number;

        boolean isFull() {
            return size >= bytes.length;
        }

        void append(int letter) {
            if (isWithin(size, 0, bytes.length - 1)) {
                bytes[size] = letter;
                size++;
            }
        }

        int letterOf(int part) {
            return isWithin(part, 0, letters.length - 1) ? letters[part] : NONE;
        }

        int numberOf(int part) {
            return isWithin(part, 0, numbers.length - 1) ? numbers[part] : NONE;
        }

        int valueOf(int part) {
            return isWithin(part, 0, values.length - 1) ? values[part] : NONE;
        }

        /** Reads it as TRAFFIC among so many LEVELS: the FAULT; NONE: it has none. */
        int findFault(int levels) {
            at = 0;
            parts = 0;
            for (int part = 1; part <= MOST_PARTS; part++) {
                if (!readPart(levels)) {
                    return at;
                }
                parts = part;
                if (at >= size) {
                    return NONE;
                }
                if (byteHere() != BLANK || part == MOST_PARTS) {
                    return at;
                }
                at++;
            }
            return at;
        }

        /** The byte that is read next; NONE: it ends. */
        private int byteHere() {
            return at < size && isWithin(at, 0, bytes.length - 1) ? bytes[at] : NONE;
        }

        /** Reads a part; if it can't, the FAULT is where it is read. */
        private boolean readPart(int levels) {
            int letter = byteHere();
            if (letter != 'r' && letter != 'w' && letter != 's' && letter != 'a') {
                return false;
            }
            at++;
            int least = letter == 's' ? 1 : 0;
            if (!readNumber(least, mostBehind(letter, levels)) || parts >= letters.length) {
                return false;
            }
            letters[parts] = letter;
            numbers[parts] = number;
            return letter != 'w' || readValue();
        }

        private static int mostBehind(int letter, int levels) {
            if (letter == 's') {
                return levels;
            }
            return letter == 'a' ? MOST_AHEAD : PAGES - 1;
        }

        private boolean readValue() {
            if (byteHere() != '=') {
                return false;
            }
            at++;
            if (!readNumber(0, MOST_VALUE) || parts >= values.length) {
                return false;
            }
            values[parts] = number;
            return true;
        }

        private boolean readNumber(int least, int most) {
            int start = at;
            number = 0;
            while (at - start < MOST_DIGITS && isWithin(byteHere(), '0', '9')) {
                number = number * 10 + byteHere() - '0';
                at++;
            }
            if (at == start) {
                return false;
            }
            if (!isWithin(number, least, most)) {
                at = start;
                return false;
            }
            return true;
        }
    }

    /** SEED, and what is drawn from it. */
    private static final class Draws {
        int seed = 1;
        /** The PAGE of the DAY ahead. */
        int dayPage;

        void takeFrom(Draws other) {
            seed = other.seed;
            dayPage = other.dayPage;
        }

        int drawBelow(int n) {
            seed = seed * 1103515245 + 12345;
            return n > 0 ? (seed >>> 16) % n : 0;
        }

        int drawPage() {
            dayPage = drawBelow(3) == 0 ? drawBelow(PAGES) : (dayPage + 1) % PAGES;
            return dayPage;
        }
    }

    /** The latest READS and WRITES, and how many there were of each PAGE. */
    private static final class History {
        private final int[] pages = new int[KEPT_PAST];
        private final int[] written = new int[KEPT_PAST];
        private final int[] costs = new int[KEPT_PAST];
        private final int[] levels = new int[KEPT_PAST];
        private final int[] times = new int[PAGES];

        void takeFrom(History other) {
            System.arraycopy(other.pages, 0, pages, 0, KEPT_PAST);
            System.arraycopy(other.written, 0, written, 0, KEPT_PAST);
            System.arraycopy(other.costs, 0, costs, 0, KEPT_PAST);
            System.arraycopy(other.levels, 0, levels, 0, KEPT_PAST);
            System.arraycopy(other.times, 0, times, 0, PAGES);
        }

        void note(int turn, int page, boolean writing, int cost, int level) {
            int place = Math.floorMod(turn, KEPT_PAST);
            if (isWithin(place, 0, KEPT_PAST - 1)) {
                pages[place] = page;
                written[place] = writing ? 1 : 0;
                costs[place] = cost;
                levels[place] = level;
            }
            if (isPage(page)) {
                times[page]++;
            }
        }

        int tells(int turn, int what) {
            int place = Math.floorMod(turn, KEPT_PAST);
            if (!isWithin(place, 0, KEPT_PAST - 1)) {
                return NONE;
            }
            switch (what) {
                case 0: return pages[place];
                case 1: return written[place];
                case 2: return costs[place];
                default: return levels[place];
            }
        }

        int timesOf(int page) {
            return isPage(page) ? times[page] : 0;
        }
    }

    /** A LEVEL with its SLOTS and its RULE. */
    private static final class Level {
        int size;
        int cost;
        int kind;
        int hand;
        int drawn;
        int hits;
        int misses;
        int placed;
        int flushed;
        int out;
        int held;
        final int[] pages = new int[MOST_SLOTS];
        final int[] values = new int[MOST_SLOTS];
        final boolean[] dirty = new boolean[MOST_SLOTS];
        final int[] since = new int[MOST_SLOTS];
        final int[] last = new int[MOST_SLOTS];
        final int[] times = new int[MOST_SLOTS];
        final boolean[] used = new boolean[MOST_SLOTS];
        /** The SLOT of each PAGE (NONE: it hasn't it), so that LOOKING needs no search. */
        final int[] slots = new int[PAGES];

        void begin(int newSize, int newCost, int newKind) {
            size = newSize;
            cost = newCost;
            kind = newKind;
            drawn = 0;
            hits = 0;
            misses = 0;
            placed = 0;
            flushed = 0;
            out = 0;
            holdNothing();
        }

        void holdNothing() {
            hand = 0;
            held = 0;
            for (int slot = 0; slot < MOST_SLOTS; slot++) {
                pages[slot] = NONE;
                dirty[slot] = false;
                used[slot] = false;
            }
            for (int page = 0; page < PAGES; page++) {
                slots[page] = NONE;
            }
        }

        void takeFrom(Level other) {
            size = other.size;
            cost = other.cost;
            kind = other.kind;
            hand = other.hand;
            drawn = other.drawn;
            hits = other.hits;
            misses = other.misses;
            placed = other.placed;
            flushed = other.flushed;
            out = other.out;
            held = other.held;
            System.arraycopy(other.pages, 0, pages, 0, MOST_SLOTS);
            System.arraycopy(other.values, 0, values, 0, MOST_SLOTS);
            System.arraycopy(other.since, 0, since, 0, MOST_SLOTS);
            System.arraycopy(other.last, 0, last, 0, MOST_SLOTS);
            System.arraycopy(other.times, 0, times, 0, MOST_SLOTS);
            System.arraycopy(other.slots, 0, slots, 0, PAGES);
            for (int slot = 0; slot < MOST_SLOTS; slot++) {
                dirty[slot] = other.dirty[slot];
                used[slot] = other.used[slot];
            }
        }

        private static boolean isSlot(int slot) {
            return slot >= 0 && slot < MOST_SLOTS;
        }

        int slotOf(int page) {
            return page >= 0 && page < slots.length ? slots[page] : NONE;
        }

        /** The PAGE in a SLOT; NONE: nothing. */
        int pageIn(int slot) {
            return slot >= 0 && slot < pages.length ? pages[slot] : NONE;
        }

        int valueIn(int slot) {
            return slot >= 0 && slot < values.length ? values[slot] : 0;
        }

        boolean isDirty(int slot) {
            return slot >= 0 && slot < dirty.length && dirty[slot];
        }

        void change(int slot, int v, boolean isDirty) {
            if (slot >= 0 && slot < MOST_SLOTS) {
                values[slot] = v;
                dirty[slot] = isDirty;
            }
        }

        /** The first SLOT that is free; NONE: it is full. */
        int freeSlot() {
            for (int slot = 0; held < size && slot < size && slot < pages.length; slot++) {
                if (pages[slot] == NONE) {
                    return slot;
                }
            }
            return NONE;
        }

        /** A free SLOT holds a PAGE, with notes of one that is PLACED. */
        void hold(int slot, int page, int newSince, int turn) {
            if (isSlot(slot) && isPage(page)) {
                pages[slot] = page;
                slots[page] = slot;
                since[slot] = newSince;
                last[slot] = turn;
                times[slot] = 1;
                used[slot] = false;
                held++;
                placed++;
            }
        }

        /** A PAGE leaves its SLOT: whether one was there. */
        boolean release(int slot) {
            int page = slot >= 0 && slot < MOST_SLOTS ? pages[slot] : NONE;
            if (page < 0 || page >= slots.length) {
                return false;
            }
            pages[slot] = NONE;
            slots[page] = NONE;
            dirty[slot] = false;
            held--;
            return true;
        }

        void letOut(int slot) {
            if (release(slot)) {
                out++;
            }
        }

        void touch(int slot, int turn) {
            if (isSlot(slot)) {
                last[slot] = turn;
                times[slot]++;
                used[slot] = true;
            }
        }

        /** The SLOT of the VICTIM by notes; NONE: it holds nothing. */
        int notedVictim() {
            int victim = NONE;
            for (int slot = 0; slot < size; slot++) {
                if (pageIn(slot) != NONE && (victim == NONE || goesAhead(slot, victim))) {
                    victim = slot;
                }
            }
            return victim;
        }

        /** Whether by notes a SLOT is rather VICTIM than another. */
        private boolean goesAhead(int slot, int other) {
            if (slot < 0 || slot >= MOST_SLOTS || other < 0 || other >= MOST_SLOTS) {
                return false;
            }
            switch (kind) {
                case FIRST: return since[slot] < since[other];
                case LATE: return last[slot] < last[other];
                case LATEST: return last[slot] > last[other];
                default: return times[slot] < times[other]
                        || times[slot] == times[other] && last[slot] < last[other];
            }
        }

        /** The SLOT of the VICTIM by the HAND, which goes on. */
        int clockVictim() {
            int slot = hand;
            for (int gone = 0; gone < size && isSlot(slot) && used[slot]; gone++) {
                used[slot] = false;
                slot = slotBehind(slot);
            }
            hand = slotBehind(slot);
            return slot;
        }

        private int slotBehind(int slot) {
            return slot + 1 < size ? slot + 1 : 0;
        }

        /** What its RULE says, taken for one of a KIND. */
        int saysAs(int upper) {
            switch (upper) {
                case RULE: return kind;
                case NOTED: return notedVictim();
                case ROUND: return size;
                case FIRST: return greatestOf(since);
                case LATE: return leastOf(last);
                case LATEST: return greatestOf(last);
                case RAREST: return leastOf(times);
                case CLOCK: return hand;
                default: return drawn;
            }
        }

        private int greatestOf(int[] notes) {
            int greatest = NONE;
            for (int slot = 0; slot < size && slot < notes.length; slot++) {
                if (pageIn(slot) != NONE) {
                    greatest = Math.max(greatest, notes[slot]);
                }
            }
            return greatest;
        }

        private int leastOf(int[] notes) {
            int least = NONE;
            for (int slot = 0; slot < size && slot < notes.length; slot++) {
                if (pageIn(slot) != NONE && (least == NONE || notes[slot] < least)) {
                    least = notes[slot];
                }
            }
            return least;
        }

        int dirtyOnes() {
            int found = 0;
            for (int slot = 0; slot < size; slot++) {
                found += isDirty(slot) ? 1 : 0;
            }
            return found;
        }

        int tells(int what) {
            switch (what) {
                case 0: return size;
                case 1: return cost;
                case 2: return kind;
                case 3: return held;
                case 4: return dirtyOnes();
                case 5: return hits;
                case 6: return misses;
                case 7: return placed;
                case 8: return flushed;
                default: return out;
            }
        }

        int tellsSlot(int slot, int what) {
            if (!isSlot(slot) || pageIn(slot) == NONE) {
                return NONE;
            }
            switch (what) {
                case 0: return pages[slot];
                case 1: return dirty[slot] ? 1 : 0;
                case 2: return since[slot];
                case 3: return last[slot];
                case 4: return times[slot];
                default: return used[slot] ? 1 : 0;
            }
        }
    }

    /** LEVELS, MEMORY and all that an IMAGE keeps. */
    private static final class Store {
        final Level[] levels = new Level[MOST_LEVELS];
        int count;
        final int[] memory = new int[PAGES];
        int memoryCost = 50;
        int mode;
        int writes;
        int ahead;
        int turn;
        int run;
        /** The PAGE that went to MEMORY last. */
        int runPage = NONE;
        int fetched;
        int toMemory;
        int allCost;
        int placedInAll;
        final Draws draws = new Draws();
        final History history = new History();
        /** Of the latest READ or WRITE: the LEVEL that had it (0: MEMORY), its VALUE. */
        int from;
        int got;

        Store() {
            for (int k = 0; k < levels.length; k++) {
                levels[k] = new Level();
            }
        }

        void takeFrom(Store other) {
            count = other.count;
            for (int number = 1; number <= count; number++) {
                Level mine = levelAt(number);
                Level kept = other.levelAt(number);
                if (mine != null && kept != null) {
                    mine.takeFrom(kept);
                }
            }
            System.arraycopy(other.memory, 0, memory, 0, PAGES);
            memoryCost = other.memoryCost;
            mode = other.mode;
            writes = other.writes;
            ahead = other.ahead;
            turn = other.turn;
            run = other.run;
            runPage = other.runPage;
            fetched = other.fetched;
            toMemory = other.toMemory;
            allCost = other.allCost;
            placedInAll = other.placedInAll;
            draws.takeFrom(other.draws);
            history.takeFrom(other.history);
        }

        /** The LEVEL of a number; null: there is none. */
        Level levelAt(int number) {
            return number >= 1 && number <= count && number <= levels.length ? levels[number - 1] : null;
        }

        int inMemory(int page) {
            return page >= 0 && page < memory.length ? memory[page] : 0;
        }

        private void putInMemory(int page, int v) {
            if (page >= 0 && page < memory.length) {
                memory[page] = v;
                toMemory++;
            }
        }

        /** A READ, or a WRITE of a VALUE: its COST. */
        int access(int page, boolean writing, int v) {
            turn++;
            int cost = lookFor(page);
            boolean isDirty = leaveToComeNear(page);
            for (int number = farthestToHold(); number >= 1; number--) {
                placeInto(this, number, page, got, isDirty);
            }
            if (writing) {
                putValue(page, v);
            }
            int lastAhead = from == 0 ? runOn(page) : NONE;
            for (int next = page + 1; next <= lastAhead; next++) {
                if (levelsWith(next) == 0) {
                    placeInto(this, count, next, inMemory(next), false);
                    fetched++;
                }
            }
            allCost += cost;
            history.note(turn, page, writing, cost, from);
            return cost;
        }

        /** LOOKS for a PAGE: the COST. */
        private int lookFor(int page) {
            int cost = 0;
            for (int number = 1; number <= count; number++) {
                Level level = levelAt(number);
                if (level != null) {
                    cost += level.cost;
                    int slot = level.slotOf(page);
                    if (slot != NONE) {
                        level.hits++;
                        level.touch(slot, turn);
                        from = number;
                        got = level.valueIn(slot);
                        return cost;
                    }
                    level.misses++;
                }
            }
            from = 0;
            got = inMemory(page);
            return cost + memoryCost;
        }

        /** By EXCLUSIVE a PAGE leaves the SLOT it was found in: whether it is DIRTY. */
        private boolean leaveToComeNear(int page) {
            Level level = levelAt(from);
            if (mode != EXCLUSIVE || from == 1 || level == null) {
                return false;
            }
            int slot = level.slotOf(page);
            boolean isDirty = level.isDirty(slot);
            level.release(slot);
            return isDirty;
        }

        /** The farthest LEVEL that a PAGE is PLACED into, as it was READ; 0: none. */
        private int farthestToHold() {
            int farthest = from == 0 ? count : from - 1;
            return mode == EXCLUSIVE ? Math.min(farthest, 1) : farthest;
        }

        private void putValue(int page, int v) {
            Level nearest = levelAt(1);
            if (nearest != null && writes != THROUGH) {
                nearest.change(nearest.slotOf(page), v, true);
                return;
            }
            for (int number = 1; number <= count; number++) {
                Level level = levelAt(number);
                if (level != null) {
                    level.change(level.slotOf(page), v, false);
                }
            }
            putInMemory(page, v);
        }

        /** RUN, as one goes to MEMORY: the last PAGE that is to be FETCHED; NONE: none. */
        private int runOn(int page) {
            run = run > 0 && page == runPage + 1 ? run + 1 : 1;
            runPage = page;
            return run < 2 || count == 0 ? NONE : Math.min(page + ahead, PAGES - 1);
        }

        /** Calls itself for farther LEVELS alone: as deep as there are LEVELS. */
        private static void placeInto(Store store, int number, int page, int v, boolean isDirty) {
            Level level = store.levelAt(number);
            if (level == null) {
                return;
            }
            int slot = level.freeSlot();
            if (slot == NONE) {
                slot = store.victimOf(level);
                if (store.mode == EXCLUSIVE && number < store.count) {
                    placeInto(store, number + 1, level.pageIn(slot), level.valueIn(slot), level.isDirty(slot));
                } else {
                    store.flushVictim(number, level.pageIn(slot));
                }
                level.letOut(slot);
            }
            level.hold(slot, page, store.placedInAll, store.turn);
            level.change(slot, v, isDirty);
            store.placedInAll++;
        }

        private int victimOf(Level level) {
            if (level.kind == CLOCK) {
                return level.clockVictim();
            }
            if (level.kind == DRAWN) {
                level.drawn++;
                return draws.drawBelow(level.size);
            }
            return level.notedVictim();
        }

        /** FLUSHES from a LEVEL, if it must, a PAGE that goes OUT of it; by INCLUSIVE it leaves the nearer ones. */
        private void flushVictim(int number, int page) {
            int nearest = mode == INCLUSIVE ? 1 : number;
            Level dirtyOne = nearestDirty(nearest, number, page);
            if (dirtyOne != null) {
                flush(number, page, dirtyOne.valueIn(dirtyOne.slotOf(page)));
            }
            for (int nearer = nearest; nearer < number; nearer++) {
                Level level = levelAt(nearer);
                if (level != null) {
                    level.letOut(level.slotOf(page));
                }
            }
        }

        /** The nearest of some LEVELS in which a PAGE is DIRTY; null: none. */
        private Level nearestDirty(int first, int last, int page) {
            for (int number = first; number <= last; number++) {
                Level level = levelAt(number);
                if (level != null && level.isDirty(level.slotOf(page))) {
                    return level;
                }
            }
            return null;
        }

        /** A VALUE is FLUSHED from a LEVEL. */
        private void flush(int number, int page, int v) {
            Level level = levelAt(number);
            if (level != null) {
                level.flushed++;
            }
            for (int farther = number + 1; farther <= count; farther++) {
                Level below = levelAt(farther);
                if (below != null && below.slotOf(page) != NONE) {
                    below.change(below.slotOf(page), v, true);
                    return;
                }
            }
            putInMemory(page, v);
        }

        /** How many were FLUSHED. */
        int sweepLevel(int number) {
            Level level = levelAt(number);
            if (level == null) {
                return 0;
            }
            int swept = 0;
            for (int slot = 0; slot < level.size; slot++) {
                if (level.isDirty(slot)) {
                    flush(number, level.pageIn(slot), level.valueIn(slot));
                    level.change(slot, level.valueIn(slot), false);
                    swept++;
                }
            }
            return swept;
        }

        void sweepOut() {
            for (int number = 1; number <= count; number++) {
                sweepLevel(number);
            }
            for (int number = 1; number <= count; number++) {
                Level level = levelAt(number);
                if (level != null) {
                    level.holdNothing();
                }
            }
            run = 0;
        }

        /** LEVELS (bits) that have a PAGE. */
        int levelsWith(int page) {
            int bits = 0;
            for (int number = 1; number <= count; number++) {
                Level level = levelAt(number);
                if (level != null && level.slotOf(page) != NONE) {
                    bits |= 1 << number - 1;
                }
            }
            return bits;
        }

        /** PAGES (bits) of a LEVEL; 0: of any. */
        long pagesIn(int number) {
            long bits = 0;
            for (int page = 0; page < PAGES; page++) {
                int with = levelsWith(page);
                if (number == 0 ? with != 0 : (with >>> number - 1 & 1) == 1) {
                    bits |= 1L << page;
                }
            }
            return bits;
        }

        int flushedInAll() {
            int flushed = 0;
            for (int number = 1; number <= count; number++) {
                Level level = levelAt(number);
                flushed += level == null ? 0 : level.flushed;
            }
            return flushed;
        }

        /** Whether a PAGE isn't in its nearest LEVEL as in MEMORY (0), is DIRTY (1), in several (2). */
        boolean differs(int page, int what) {
            if (what == 2) {
                return Integer.bitCount(levelsWith(page)) > 1;
            }
            if (what == 1) {
                return nearestDirty(1, count, page) != null;
            }
            Level nearest = nearestWith(page);
            return nearest != null && nearest.valueIn(nearest.slotOf(page)) != inMemory(page);
        }

        /** The nearest LEVEL that has a PAGE; null: none. */
        private Level nearestWith(int page) {
            for (int number = 1; number <= count; number++) {
                Level level = levelAt(number);
                if (level != null && level.slotOf(page) != NONE) {
                    return level;
                }
            }
            return null;
        }

        boolean keepsMode() {
            for (int page = 0; page < PAGES; page++) {
                int with = levelsWith(page);
                // by INCLUSIVE the LEVELS that have it are the farthest ones, without a gap
                if (mode == INCLUSIVE && with != 0 && (with << 1 & ~with & (1 << count) - 1) != 0) {
                    return false;
                }
                if (mode == EXCLUSIVE && Integer.bitCount(with) > 1) {
                    return false;
                }
            }
            return true;
        }
    }
}
