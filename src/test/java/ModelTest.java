import java.util.ArrayList;
import java.util.Arrays;
import java.util.List;
import java.util.Random;
import java.util.TreeSet;

/**
 * Runs of calls by chance (from fixed seeds) on PageLevels and on a slow model that is written from the
 * document on its own, with other means: every answer must be the same.
 */
public final class ModelTest {
    static final int RUNS = 1500;
    static final int CALLS = 512;

    static final class Refusal extends RuntimeException {
        final int number;

        Refusal(int number) {
            super(null, null, false, false);
            this.number = number;
        }
    }

    static void bad(boolean wrong) {
        if (wrong) {
            throw new Refusal(-52);
        }
    }

    static final class Place {
        int page = -1;
        int value;
        boolean dirty;
        int since;
        int last;
        int times;
        boolean used;

        Place twin() {
            Place twin = new Place();
            twin.page = page;
            twin.value = value;
            twin.dirty = dirty;
            twin.since = since;
            twin.last = last;
            twin.times = times;
            twin.used = used;
            return twin;
        }
    }

    static final class Cache {
        int cost;
        int kind;
        int hand;
        int drawn;
        int hits;
        int misses;
        int placed;
        int flushed;
        int out;
        List<Place> places = new ArrayList<>();

        Cache(int size, int cost, int kind) {
            this.cost = cost;
            this.kind = kind;
            resize(size);
        }

        void resize(int size) {
            places.clear();
            for (int i = 0; i < size; i++) {
                places.add(new Place());
            }
            hand = 0;
        }

        Cache twin() {
            Cache twin = new Cache(0, cost, kind);
            for (Place place : places) {
                twin.places.add(place.twin());
            }
            twin.hand = hand;
            twin.drawn = drawn;
            twin.hits = hits;
            twin.misses = misses;
            twin.placed = placed;
            twin.flushed = flushed;
            twin.out = out;
            return twin;
        }

        Place of(int page) {
            for (Place place : places) {
                if (place.page == page) {
                    return place;
                }
            }
            return null;
        }

        List<Place> full() {
            List<Place> full = new ArrayList<>();
            for (Place place : places) {
                if (place.page >= 0) {
                    full.add(place);
                }
            }
            return full;
        }

        /** Sorted by the rule's notes, the victim first (a stable sort keeps the least slot ahead). */
        Place noted() {
            List<Place> full = full();
            if (kind == 3) {
                full.sort((a, b) -> Integer.compare(a.since, b.since));
            } else if (kind == 4) {
                full.sort((a, b) -> Integer.compare(a.last, b.last));
            } else if (kind == 5) {
                full.sort((a, b) -> Integer.compare(b.last, a.last));
            } else {
                full.sort((a, b) -> a.times != b.times ? Integer.compare(a.times, b.times)
                        : Integer.compare(a.last, b.last));
            }
            return full.isEmpty() ? null : full.get(0);
        }
    }

    static final class World {
        List<Cache> caches = new ArrayList<>();
        int[] memory = new int[64];
        int memoryCost = 50;
        int mode;
        int through;
        int ahead;
        int turn;
        int run;
        int runPage = -5;
        int fetched;
        int toMemory;
        int allCost;
        int placed;
        int seed = 1;
        int dayPage;
        int[] often = new int[64];
        List<int[]> past = new ArrayList<>();

        World twin() {
            World twin = new World();
            for (Cache cache : caches) {
                twin.caches.add(cache.twin());
            }
            twin.memory = memory.clone();
            twin.memoryCost = memoryCost;
            twin.mode = mode;
            twin.through = through;
            twin.ahead = ahead;
            twin.turn = turn;
            twin.run = run;
            twin.runPage = runPage;
            twin.fetched = fetched;
            twin.toMemory = toMemory;
            twin.allCost = allCost;
            twin.placed = placed;
            twin.seed = seed;
            twin.dayPage = dayPage;
            twin.often = often.clone();
            twin.past = new ArrayList<>(past);
            return twin;
        }

        int draw(int n) {
            seed = (int) (seed * 1103515245L + 12345L);
            return (int) ((seed & 0xFFFFFFFFL) / 65536 % n);
        }

        void place(int k, int page, int value, boolean dirty) {
            Cache cache = caches.get(k);
            if (cache.full().size() == cache.places.size()) {
                out(k, victim(cache));
            }
            Place free = cache.of(-1);
            free.page = page;
            free.value = value;
            free.dirty = dirty;
            free.since = placed;
            free.last = turn;
            free.times = 1;
            free.used = false;
            placed++;
            cache.placed++;
        }

        Place victim(Cache cache) {
            int size = cache.places.size();
            if (cache.kind == 8) {
                cache.drawn++;
                return cache.places.get(draw(size));
            }
            if (cache.kind != 7) {
                return cache.noted();
            }
            while (cache.places.get(cache.hand).used) {
                cache.places.get(cache.hand).used = false;
                cache.hand = (cache.hand + 1) % size;
            }
            Place victim = cache.places.get(cache.hand);
            cache.hand = (cache.hand + 1) % size;
            return victim;
        }

        void out(int k, Place victim) {
            Place was = victim.twin();
            caches.get(k).out++;
            victim.page = -1;
            victim.dirty = false;
            if (mode == 0 && was.dirty) {
                flush(k, was.page, was.value);
            }
            if (mode == 1) {
                List<Integer> dirtyValues = new ArrayList<>();
                for (int near = 0; near < k; near++) {
                    Place nearer = caches.get(near).of(was.page);
                    if (nearer != null) {
                        if (nearer.dirty) {
                            dirtyValues.add(nearer.value);
                        }
                        nearer.page = -1;
                        nearer.dirty = false;
                        caches.get(near).out++;
                    }
                }
                if (was.dirty) {
                    dirtyValues.add(was.value);
                }
                if (!dirtyValues.isEmpty()) {
                    flush(k, was.page, dirtyValues.get(0));
                }
            }
            if (mode == 2) {
                if (k + 1 < caches.size()) {
                    place(k + 1, was.page, was.value, was.dirty);
                } else if (was.dirty) {
                    flush(k, was.page, was.value);
                }
            }
        }

        void flush(int k, int page, int value) {
            caches.get(k).flushed++;
            for (Cache below : caches.subList(k + 1, caches.size())) {
                Place place = below.of(page);
                if (place != null) {
                    place.value = value;
                    place.dirty = true;
                    return;
                }
            }
            memory[page] = value;
            toMemory++;
        }

        int sweep(int k) {
            int n = 0;
            for (Place place : caches.get(k).places) {
                if (place.page >= 0 && place.dirty) {
                    flush(k, place.page, place.value);
                    place.dirty = false;
                    n++;
                }
            }
            return n;
        }

        World sweptOut() {
            for (int k = 0; k < caches.size(); k++) {
                sweep(k);
            }
            for (Cache cache : caches) {
                cache.resize(cache.places.size());
            }
            run = 0;
            return this;
        }

        boolean nowhere(int page) {
            for (Cache cache : caches) {
                if (cache.of(page) != null) {
                    return false;
                }
            }
            return true;
        }

        /** The value, the cost, and the level that had it. */
        int[] go(int page, Integer written) {
            turn++;
            int k = 0;
            int cost = 0;
            while (k < caches.size() && caches.get(k).of(page) == null) {
                caches.get(k).misses++;
                cost += caches.get(k).cost;
                k++;
            }
            int value = memory[page];
            boolean far = k == caches.size();
            boolean dirty = false;
            if (far) {
                cost += memoryCost;
            } else {
                Place place = caches.get(k).of(page);
                cost += caches.get(k).cost;
                caches.get(k).hits++;
                place.last = turn;
                place.times++;
                place.used = true;
                value = place.value;
                if (mode == 2 && k > 0) {
                    dirty = place.dirty;
                    place.page = -1;
                    place.dirty = false;
                }
            }
            if (mode == 2 && k > 0) {
                place(0, page, value, dirty);
            }
            if (mode != 2) {
                for (int near = k - 1; near >= 0; near--) {
                    place(near, page, value, false);
                }
            }
            if (written != null) {
                put(page, written);
            }
            if (far) {
                run = run > 0 && runPage + 1 == page ? run + 1 : 1;
                runPage = page;
                for (int q = page + 1; run >= 2 && !caches.isEmpty() && q <= page + ahead && q <= 63; q++) {
                    if (nowhere(q)) {
                        place(caches.size() - 1, q, memory[q], false);
                        fetched++;
                    }
                }
            }
            often[page]++;
            allCost += cost;
            int from = far ? 0 : k + 1;
            past.add(0, new int[] {page, written == null ? 0 : 1, cost, from});
            return new int[] {value, cost, from};
        }

        void put(int page, int value) {
            if (!caches.isEmpty() && through == 0) {
                caches.get(0).of(page).value = value;
                caches.get(0).of(page).dirty = true;
                return;
            }
            for (Cache cache : caches) {
                Place place = cache.of(page);
                if (place != null) {
                    place.value = value;
                    place.dirty = false;
                }
            }
            memory[page] = value;
            toMemory++;
        }

        int costOf(List<Integer> row) {
            int cost = 0;
            for (int page : row) {
                cost += go(page, null)[1];
            }
            return cost;
        }

        int flushed() {
            int n = 0;
            for (Cache cache : caches) {
                n += cache.flushed;
            }
            return n;
        }

        TreeSet<Integer> pages() {
            TreeSet<Integer> pages = new TreeSet<>();
            for (Cache cache : caches) {
                for (Place place : cache.full()) {
                    pages.add(place.page);
                }
            }
            return pages;
        }

        int where(int page) {
            int bits = 0;
            for (int k = 0; k < caches.size(); k++) {
                bits += caches.get(k).of(page) == null ? 0 : 1 << k;
            }
            return bits;
        }
    }

    /** What a shelf holds: a row (sort, elements), or a level's rule (level 1 on). */
    static final class Thing {
        int sort = -1;
        long[] elements;
        int level;
    }

    static final class Model {
        World world = new World();
        World kept;
        Thing[] shelves = new Thing[8];
        List<Integer> tape = new ArrayList<>();
        int[] refusals = new int[5];

        Thing row(int s) {
            bad(s < 0 || s > 7);
            if (shelves[s] != null && shelves[s].sort < 0) {
                throw new Refusal(-53);
            }
            if (shelves[s] == null) {
                throw new Refusal(-54);
            }
            return shelves[s];
        }

        List<Integer> told(int s, int n, int step) {
            Thing thing = row(s);
            bad(thing.elements.length < n * step);
            List<Integer> pages = new ArrayList<>();
            for (int i = 0; i < n; i++) {
                bad(thing.elements[i * step] < 0 || thing.elements[i * step] > 63);
                pages.add((int) thing.elements[i * step]);
            }
            return pages;
        }

        static boolean page(int page) {
            return page >= 0 && page <= 63;
        }

        boolean level(int level) {
            return level >= 1 && level <= world.caches.size();
        }

        long ask(int call, int[] a, long v) {
            try {
                return call < 15 ? early(call, a, v) : call < 28 ? middle(call, a) : late(call, a);
            } catch (Refusal refusal) {
                refusals[-52 - refusal.number]++;
                return call == 22 || call == 23 ? refusal.number - 9000000000000000000L : refusal.number;
            }
        }

        long early(int call, int[] a, long v) {
            switch (call) {
                case 0: {
                    bad(a[0] < 0 || a[0] > 7 || a[1] < 0 || a[1] > 4 || a[2] < 0 || a[2] > 40);
                    shelves[a[0]] = new Thing();
                    shelves[a[0]].sort = a[1];
                    shelves[a[0]].elements = new long[a[2]];
                    return 1;
                }
                case 1: {
                    Thing thing = row(a[0]);
                    bad(a[1] < 0 || a[1] >= thing.elements.length);
                    long[] kept = {(byte) v, (short) v, (int) v, v, v != 0 ? 1 : 0};
                    thing.elements[a[1]] = kept[thing.sort];
                    return 1;
                }
                case 2: return copy(a);
                case 3: {
                    boolean none = a[0] < 0 || a[0] > 7 || shelves[a[0]] == null || shelves[a[0]].sort < 0;
                    return none || a[1] < 0 || a[1] >= shelves[a[0]].elements.length ? 0 : shelves[a[0]].elements[a[1]];
                }
                case 4: {
                    if (a[0] < 0 || a[0] > 7 || shelves[a[0]] == null) {
                        return -1;
                    }
                    return shelves[a[0]].sort < 0 ? 10 + shelves[a[0]].level : shelves[a[0]].sort;
                }
                case 5: {
                    bad(a[0] < 0 || a[0] > 7 || a[1] != -1 && !level(a[1]));
                    shelves[a[0]] = null;
                    if (a[1] != -1) {
                        shelves[a[0]] = new Thing();
                        shelves[a[0]].level = a[1];
                    }
                    return 1;
                }
                case 6: return says(a[0], a[1]);
                case 7: {
                    bad(a[0] < 0 || a[0] > 255);
                    if (tape.size() == 250) {
                        throw new Refusal(-56);
                    }
                    tape.add(a[0]);
                    return tape.size();
                }
                case 8: {
                    int size = tape.size();
                    tape.clear();
                    return size;
                }
                case 9: return traffic();
                case 10: {
                    bad(a[0] < 1 || a[0] > 16 || a[1] < 0 || a[1] > 99 || a[2] < 3 || a[2] > 8);
                    if (world.caches.size() == 4) {
                        throw new Refusal(-56);
                    }
                    world.sweptOut().caches.add(new Cache(a[0], a[1], a[2]));
                    return world.caches.size();
                }
                case 11: {
                    if (world.caches.isEmpty()) {
                        throw new Refusal(-55);
                    }
                    world.sweptOut().caches.remove(world.caches.size() - 1);
                    tidy();
                    return world.caches.size();
                }
                case 12: {
                    bad(a[0] < 0 || a[0] > 1 || a[1] < 0 || a[1] > 2 - a[0]);
                    world.sweptOut();
                    int was = a[0] == 0 ? world.mode : world.through;
                    if (a[0] == 0) {
                        world.mode = a[1];
                    } else {
                        world.through = a[1];
                    }
                    return was;
                }
                case 13: {
                    bad(a[0] < 0 || a[0] > 1 || a[1] < 0 || a[1] > (a[0] == 0 ? 8 : 999));
                    int was = a[0] == 0 ? world.ahead : world.memoryCost;
                    if (a[0] == 0) {
                        world.ahead = a[1];
                    } else {
                        world.memoryCost = a[1];
                    }
                    return was;
                }
                default: {
                    bad(!page(a[0]));
                    return world.go(a[0], null)[0];
                }
            }
        }

        void tidy() {
            for (int s = 0; s < 8; s++) {
                if (shelves[s] != null && shelves[s].level > world.caches.size()) {
                    shelves[s] = null;
                }
            }
        }

        long copy(int[] a) {
            bad(a[0] < 0 || a[0] > 7 || a[1] < 0 || a[1] > 7);
            Thing p = shelves[a[0]];
            Thing q = shelves[a[1]];
            if (p != null && p.sort < 0 || q != null && q.sort < 0 || p != null && q != null && p.sort != q.sort) {
                throw new Refusal(-53);
            }
            if (p == null || q == null) {
                throw new Refusal(-54);
            }
            long i = a[2];
            long j = a[3];
            long n = a[4];
            bad(i < 0 || j < 0 || n < 0 || i + n > p.elements.length || j + n > q.elements.length);
            long[] was = p.elements.clone();
            for (int k = 0; k < n; k++) {
                q.elements[(int) j + k] = was[(int) i + k];
            }
            return n;
        }

        long says(int s, int kind) {
            bad(s < 0 || s > 7 || kind < 0 || kind > 8);
            if (shelves[s] == null) {
                throw new Refusal(-54);
            }
            if (shelves[s].sort >= 0) {
                throw new Refusal(-53);
            }
            Cache cache = world.caches.get(shelves[s].level - 1);
            String[] above = {"", "", "", "013", "014", "0145", "0146", "027", "028"};
            if (above[cache.kind].indexOf('0' + kind) < 0) {
                throw new Refusal(-53);
            }
            List<Place> full = cache.full();
            switch (kind) {
                case 0: return cache.kind;
                case 1: return full.isEmpty() ? -1 : cache.places.indexOf(cache.noted());
                case 2: return cache.places.size();
                case 3: return full.stream().mapToInt(p -> p.since).max().orElse(-1);
                case 4: return full.stream().mapToInt(p -> p.last).min().orElse(-1);
                case 5: return full.stream().mapToInt(p -> p.last).max().orElse(-1);
                case 6: return full.stream().mapToInt(p -> p.times).min().orElse(-1);
                case 7: return cache.hand;
                default: return cache.drawn;
            }
        }

        /** Reads the tape byte by byte, as a machine with states: L letter, N first digit, D digits, B behind. */
        long traffic() {
            List<int[]> parts = new ArrayList<>();
            int[] bytes = new int[tape.size() + 1];
            for (int i = 0; i < tape.size(); i++) {
                bytes[i] = tape.get(i);
            }
            bytes[tape.size()] = -1;
            tape.clear();
            int fault = fault(bytes, parts);
            if (fault >= 0) {
                refusals[0]++;
                return -800 - fault;
            }
            int cost = 0;
            for (int[] part : parts) {
                if (part[0] == 'r' || part[0] == 'w') {
                    cost += world.go(part[1], part[0] == 'w' ? (Integer) part[2] : null)[1];
                } else if (part[0] == 's') {
                    world.sweep(part[1] - 1);
                } else {
                    world.ahead = part[1];
                }
            }
            return cost;
        }

        int fault(int[] bytes, List<int[]> parts) {
            char state = 'L';
            int[] part = null;
            int field = 1;
            int start = 0;
            for (int i = 0; i < bytes.length; i++) {
                int b = bytes[i];
                boolean digit = b >= '0' && b <= '9';
                if (state == 'D' && digit && i - start < 3) {
                    part[field] = part[field] * 10 + b - '0';
                    continue;
                }
                if (state == 'D') {
                    int least = part[0] == 's' ? 1 : 0;
                    int most = field == 2 ? 999 : part[0] == 's' ? world.caches.size() : part[0] == 'a' ? 8 : 63;
                    if (part[field] < least || part[field] > most) {
                        return start;
                    }
                    if (part[0] == 'w' && field == 1) {
                        if (b != '=') {
                            return i;
                        }
                        field = 2;
                        state = 'N';
                        continue;
                    }
                    parts.add(part);
                    if (b == -1) {
                        return -1;
                    }
                    if (b != ' ' || parts.size() == 30) {
                        return i;
                    }
                    state = 'L';
                    continue;
                }
                if (state == 'N') {
                    if (!digit) {
                        return i;
                    }
                    part[field] = b - '0';
                    start = i;
                    state = 'D';
                    continue;
                }
                if (b != 'r' && b != 'w' && b != 's' && b != 'a') {
                    return i;
                }
                part = new int[] {b, 0, 0};
                field = 1;
                state = 'N';
            }
            throw new IllegalStateException();
        }

        long middle(int call, int[] a) {
            switch (call) {
                case 15:
                    bad(!page(a[0]));
                    return world.go(a[0], a[1])[1];
                case 16:
                    bad(!level(a[0]));
                    return world.sweep(a[0] - 1);
                case 17: {
                    int n = world.pages().size();
                    world.sweptOut();
                    return n;
                }
                case 18: {
                    bad(!level(a[0]) || a[1] < 0 || a[1] > 9);
                    Cache c = world.caches.get(a[0] - 1);
                    long dirty = c.full().stream().filter(p -> p.dirty).count();
                    long[] all = {c.places.size(), c.cost, c.kind, c.full().size(), dirty, c.hits, c.misses, c.placed,
                        c.flushed, c.out};
                    return all[a[1]];
                }
                case 19: {
                    bad(!level(a[0]));
                    Cache c = world.caches.get(a[0] - 1);
                    bad(a[1] < 0 || a[1] >= c.places.size() || a[2] < 0 || a[2] > 5);
                    Place p = c.places.get(a[1]);
                    int[] all = {p.page, p.dirty ? 1 : 0, p.since, p.last, p.times, p.used ? 1 : 0};
                    return p.page < 0 ? -1 : all[a[2]];
                }
                case 20: {
                    bad(a[0] != 0 && !level(a[0]) || !page(a[1]));
                    if (a[0] == 0) {
                        return world.memory[a[1]];
                    }
                    Place p = world.caches.get(a[0] - 1).of(a[1]);
                    if (p == null) {
                        throw new Refusal(-55);
                    }
                    return p.value;
                }
                case 21:
                    bad(!page(a[0]));
                    return world.where(a[0]);
                case 22: {
                    bad(a[0] != 0 && !level(a[0]));
                    long bits = 0;
                    for (int page : world.pages()) {
                        bits += a[0] == 0 || world.caches.get(a[0] - 1).of(page) != null ? 1L << page : 0;
                    }
                    return bits;
                }
                case 23: return differ(a[0]);
                case 24: return kept();
                case 25: {
                    bad(!page(a[0]) || a[1] < 0 || a[1] > 3);
                    World twin = world.twin();
                    int cost = twin.go(a[0], null)[1];
                    TreeSet<Integer> gone = world.pages();
                    gone.removeAll(twin.pages());
                    int[] all = {cost, twin.flushed() - world.flushed(), twin.fetched - world.fetched, gone.size()};
                    return all[a[1]];
                }
                case 26: {
                    bad(a[1] < 0 || a[1] > 40 || a[2] < 0 || a[2] > 2);
                    int[] all = new int[3];
                    World twin = world.twin();
                    for (int page : told(a[0], a[1], 1)) {
                        int[] got = twin.go(page, null);
                        all[0] += got[1];
                        all[1] += got[2] == 1 ? 1 : 0;
                        all[2] += got[2] == 0 ? 1 : 0;
                    }
                    return all[a[2]];
                }
                default: {
                    bad(!level(a[0]) || a[2] < 0 || a[2] > 40);
                    List<Integer> row = told(a[1], a[2], 1);
                    int[] costs = new int[6];
                    for (int kind = 3; kind <= 8; kind++) {
                        World twin = world.twin().sweptOut();
                        twin.caches.get(a[0] - 1).kind = kind;
                        costs[kind - 3] = twin.costOf(row);
                    }
                    int least = Arrays.stream(costs).min().getAsInt();
                    int kind = 0;
                    while (costs[kind] != least) {
                        kind++;
                    }
                    return kind + 3;
                }
            }
        }

        long differ(int what) {
            bad(what < 0 || what > 2);
            long bits = 0;
            for (int page = 63; page >= 0; page--) {
                List<Place> copies = new ArrayList<>();
                for (Cache cache : world.caches) {
                    if (cache.of(page) != null) {
                        copies.add(cache.of(page));
                    }
                }
                boolean is = what == 0 ? !copies.isEmpty() && copies.get(0).value != world.memory[page]
                        : what == 1 ? copies.stream().anyMatch(p -> p.dirty) : copies.size() > 1;
                bits = bits << 1 | (is ? 1 : 0);
            }
            return bits;
        }

        int kept() {
            for (int k = 0; k + 1 < world.caches.size(); k++) {
                for (Place place : world.caches.get(k).full()) {
                    boolean below = world.caches.get(k + 1).of(place.page) != null;
                    boolean alone = Integer.bitCount(world.where(place.page)) == 1;
                    if (world.mode == 1 && !below || world.mode == 2 && !alone) {
                        return 0;
                    }
                }
            }
            return 1;
        }

        long late(int call, int[] a) {
            switch (call) {
                case 28: {
                    bad(!level(a[0]) || a[2] < 0 || a[2] > 40 || a[3] < 0);
                    List<Integer> row = told(a[1], a[2], 1);
                    for (int size = 1; size <= 16; size++) {
                        World twin = world.twin().sweptOut();
                        twin.caches.get(a[0] - 1).resize(size);
                        if (twin.costOf(row) <= a[3]) {
                            return size;
                        }
                    }
                    return -1;
                }
                case 29: {
                    bad(a[1] < 0 || a[1] > 40);
                    List<Integer> row = told(a[0], a[1], 1);
                    int[] costs = new int[3];
                    for (int mode = 0; mode < 3; mode++) {
                        World twin = world.twin().sweptOut();
                        twin.mode = mode;
                        costs[mode] = twin.costOf(row);
                    }
                    int least = Arrays.stream(costs).min().getAsInt();
                    return (costs[0] == least ? 1 : 0) + (costs[1] == least ? 2 : 0) + (costs[2] == least ? 4 : 0);
                }
                case 30: {
                    bad(a[1] < 0 || a[1] > 40 || a[2] < 1 || a[2] > 16);
                    return foresight(told(a[0], a[1], 1), a[2]);
                }
                case 31: {
                    bad(a[1] < 0 || a[1] > 40);
                    List<Integer> row = told(a[0], a[1], 1);
                    bad(a[2] < 0 || a[2] >= a[1]);
                    return reuse(row, a[2]);
                }
                case 32: {
                    bad(a[1] < 0 || a[1] > 40 || a[2] < 0 || a[2] > 2);
                    List<Integer> row = told(a[0], a[1], 1);
                    if (a[2] == 0) {
                        return new TreeSet<>(row).size();
                    }
                    int best = -1;
                    for (int i = 0; i < row.size() && a[2] == 1; i++) {
                        best = Math.max(best, reuse(row, i));
                    }
                    for (int page : new TreeSet<>(row)) {
                        if (a[2] == 2 && (best < 0 || count(row, page) > count(row, best))) {
                            best = page;
                        }
                    }
                    return best;
                }
                case 33: {
                    bad(a[1] < 0 || a[1] > 20);
                    List<Integer> row = told(a[0], a[1], 2);
                    World twin = world.twin();
                    for (int i = 0; i < row.size(); i++) {
                        if (twin.go(row.get(i), null)[2] != shelves[a[0]].elements[2 * i + 1]) {
                            return i;
                        }
                    }
                    return -1;
                }
                case 34:
                    bad(a[0] < 0 || a[0] > 19 || a[0] >= world.past.size() || a[1] < 0 || a[1] > 3);
                    return world.past.get(a[0])[a[1]];
                case 35:
                    bad(!page(a[0]));
                    return world.often[a[0]];
                case 36: {
                    bad(a[0] < 1 || a[0] > 60);
                    int cost = 0;
                    for (int i = 0; i < a[0]; i++) {
                        boolean write = world.draw(4) == 0;
                        boolean jump = world.draw(3) == 0;
                        world.dayPage = jump ? world.draw(64) : world.dayPage == 63 ? 0 : world.dayPage + 1;
                        cost += world.go(world.dayPage, write ? (Integer) world.draw(100) : null)[1];
                    }
                    return cost;
                }
                case 37: {
                    int was = world.seed;
                    world.seed = a[0];
                    return was;
                }
                case 38:
                    kept = world.twin();
                    return 1;
                case 39: {
                    if (kept == null) {
                        throw new Refusal(-55);
                    }
                    world = kept.twin();
                    tidy();
                    return 1;
                }
                default: {
                    int held = 0;
                    for (Thing thing : shelves) {
                        held += thing == null ? 0 : 1;
                    }
                    int[] all = {world.caches.size(), world.mode, world.through, world.ahead, world.memoryCost,
                        world.turn, world.run, world.fetched, world.toMemory, world.allCost, tape.size(), world.seed,
                        refusals[0], refusals[1], refusals[2], refusals[3], refusals[4], held};
                    return a[0] < 0 || a[0] > 17 ? -1 : all[a[0]];
                }
            }
        }

        static int count(List<Integer> row, int page) {
            return (int) row.stream().filter(p -> p == page).count();
        }

        static int reuse(List<Integer> row, int i) {
            int before = row.subList(0, i).lastIndexOf(row.get(i));
            return before < 0 ? -1 : new TreeSet<>(row.subList(before + 1, i)).size();
        }

        static int foresight(List<Integer> row, int slots) {
            TreeSet<Integer> held = new TreeSet<>();
            int hits = 0;
            for (int i = 0; i < row.size(); i++) {
                List<Integer> coming = row.subList(i + 1, row.size());
                if (held.contains(row.get(i))) {
                    hits++;
                    continue;
                }
                if (held.size() == slots) {
                    int victim = -1;
                    for (int page : held) {
                        int next = coming.contains(page) ? coming.indexOf(page) : 1000;
                        int most = victim < 0 ? -1 : coming.contains(victim) ? coming.indexOf(victim) : 1000;
                        victim = next > most ? page : victim;
                    }
                    held.remove(victim);
                }
                held.add(row.get(i));
            }
            return hits;
        }
    }

    static final String[] NAMES = {"row", "set", "copy", "element", "holds", "show", "says", "feed", "wipe", "traffic",
        "level", "drop", "mode", "tell", "read", "write", "sweep", "clear", "levelOf", "slot", "value", "where",
        "pages", "differ", "kept", "would", "plan", "rule", "size", "modes", "foresight", "reuse", "rowOf", "judge",
        "past", "often", "days", "seed", "image", "back", "status"};

    static long call(PageLevels x, int call, int[] a, long v) {
        switch (call) {
            case 0: return x.row(a[0], a[1], a[2]);
            case 1: return x.set(a[0], a[1], v);
            case 2: return x.copy(a[0], a[1], a[2], a[3], a[4]);
            case 3: return x.element(a[0], a[1]);
            case 4: return x.holds(a[0]);
            case 5: return x.show(a[0], a[1]);
            case 6: return x.says(a[0], a[1]);
            case 7: return x.feed(a[0]);
            case 8: return x.wipe();
            case 9: return x.traffic();
            case 10: return x.level(a[0], a[1], a[2]);
            case 11: return x.drop();
            case 12: return x.mode(a[0], a[1]);
            case 13: return x.tell(a[0], a[1]);
            case 14: return x.read(a[0]);
            case 15: return x.write(a[0], a[1]);
            case 16: return x.sweep(a[0]);
            case 17: return x.clear();
            case 18: return x.levelOf(a[0], a[1]);
            case 19: return x.slot(a[0], a[1], a[2]);
            case 20: return x.value(a[0], a[1]);
            case 21: return x.where(a[0]);
            case 22: return x.pages(a[0]);
            case 23: return x.differ(a[0]);
            case 24: return x.kept();
            case 25: return x.would(a[0], a[1]);
            case 26: return x.plan(a[0], a[1], a[2]);
            case 27: return x.rule(a[0], a[1], a[2]);
            case 28: return x.size(a[0], a[1], a[2], a[3]);
            case 29: return x.modes(a[0], a[1]);
            case 30: return x.foresight(a[0], a[1], a[2]);
            case 31: return x.reuse(a[0], a[1], a[2]);
            case 32: return x.rowOf(a[0], a[1], a[2]);
            case 33: return x.judge(a[0], a[1]);
            case 34: return x.past(a[0], a[1]);
            case 35: return x.often(a[0]);
            case 36: return x.days(a[0]);
            case 37: return x.seed(a[0]);
            case 38: return x.image();
            case 39: return x.back();
            default: return x.status(a[0]);
        }
    }

    // ---- calls by chance

    /** What each argument of a call may be: S shelf, P page, L level, N a told n; digits: below that. */
    static final String[][] ARGUMENTS = {
        {"S", "5", "41"}, {"S", "41"}, {"S", "S", "12", "12", "20"}, {"S", "41"}, {"S"}, {"S", "L"}, {"S", "9"},
        {"256"}, {}, {}, {"Z", "100", "K"}, {}, {"2", "3"}, {"2", "9"}, {"P"}, {"P", "X"}, {"L"}, {}, {"L", "10"},
        {"L", "6", "6"}, {"L", "P"}, {"P"}, {"L"}, {"3"}, {}, {"P", "4"}, {"S", "N", "3"}, {"L", "S", "N"},
        {"L", "S", "N", "M"}, {"S", "N"}, {"S", "N", "Z"}, {"S", "N", "N"}, {"S", "N", "3"}, {"S", "21"}, {"21", "4"},
        {"P"}, {"12"}, {"X"}, {}, {}, {"18"}};
    static final int[] OFTEN = {2, 2, 3, 2, 2, 3, 6, 2, 1, 0, 3, 1, 2, 3, 60, 40, 6, 1, 8, 10, 8, 4, 5, 8, 6, 14, 7, 4,
        4, 4, 4, 4, 5, 5, 6, 3, 4, 2, 1, 1, 12};
    static final int[] WILD = {Integer.MIN_VALUE, Integer.MAX_VALUE, -1, -2, 64, 41, 65, 100, 1000, 256, 17, 9, 5, 21,
        61, 19, 20, 18};

    static final class Chance {
        final Random random;
        final int pages;

        Chance(long seed) {
            random = new Random(seed);
            pages = new int[] {6, 12, 24, 64}[random.nextInt(4)];
        }

        int call() {
            int sum = Arrays.stream(OFTEN).sum();
            int at = random.nextInt(sum);
            int call = 0;
            while (at >= OFTEN[call]) {
                at -= OFTEN[call];
                call++;
            }
            return call;
        }

        int argument(String what, int ahead) {
            if (random.nextInt(60) == 0) {
                return WILD[random.nextInt(WILD.length)];
            }
            switch (what.charAt(0)) {
                case 'S': return random.nextInt(8);
                case 'P': return random.nextInt(3) == 0 && ahead >= 0 ? Math.min(63, ahead + 1) : random.nextInt(pages);
                case 'L': return random.nextInt(20) == 0 ? -1 : random.nextInt(5);
                case 'N': return random.nextInt(41);
                case 'Z': return random.nextInt(3) == 0 ? 1 + random.nextInt(16) : 1 + random.nextInt(4);
                case 'K': return 3 + random.nextInt(6);
                case 'M': return random.nextInt(2500);
                case 'X': return random.nextInt(4) == 0 ? random.nextInt() : random.nextInt(50);
                default: return random.nextInt(Integer.parseInt(what));
            }
        }

        String text(int levels) {
            StringBuilder text = new StringBuilder();
            int parts = random.nextInt(8) == 0 ? 28 + random.nextInt(4) : random.nextInt(6);
            for (int i = 0; i < parts; i++) {
                text.append(i == 0 ? "" : " ");
                switch (random.nextInt(6)) {
                    case 0: text.append("s").append(random.nextInt(10) == 0 ? levels + 1 : Math.max(levels, 1)); break;
                    case 1: text.append("a").append(random.nextInt(random.nextInt(8) == 0 ? 12 : 9)); break;
                    case 2:
                    case 3: text.append("w").append(page()).append("=").append(random.nextInt(1000)); break;
                    default: text.append("r").append(page()); break;
                }
            }
            if (random.nextInt(3) == 0 && text.length() > 0) {
                int at = random.nextInt(text.length());
                String junk = " =rwsa0123456789x";
                text.setCharAt(at, junk.charAt(random.nextInt(junk.length())));
            }
            if (random.nextInt(5) == 0) {
                text.setLength(random.nextInt(text.length() + 1));
            }
            return text.toString();
        }

        String page() {
            int page = random.nextInt(15) == 0 ? 64 + random.nextInt(40) : random.nextInt(pages);
            return random.nextInt(6) == 0 ? String.format("%03d", page) : Integer.toString(page);
        }
    }

    final PageLevels real = new PageLevels();
    final Model model = new Model();
    final Chance chance;
    final StringBuilder told = new StringBuilder();
    int calls;

    ModelTest(long seed) {
        chance = new Chance(seed);
    }

    boolean same(int call, int[] a, long v) {
        if (calls >= CALLS) {
            return true;
        }
        calls++;
        long want = model.ask(call, a, v);
        long got = call(real, call, a, v);
        told.append(NAMES[call]).append(Arrays.toString(Arrays.copyOf(a, ARGUMENTS[call].length)));
        told.append(call == 1 ? " " + v : "").append(" = ").append(got).append('\n');
        if (got != want) {
            System.out.println(told + "the last should be " + want);
        }
        return got == want;
    }

    boolean feedText() {
        for (char c : chance.text(model.world.caches.size()).toCharArray()) {
            if (!same(7, new int[] {c}, 0)) {
                return false;
            }
        }
        return same(9, new int[0], 0);
    }

    boolean fillRow() {
        int s = chance.random.nextInt(8);
        int n = chance.random.nextInt(41);
        if (!same(0, new int[] {s, chance.random.nextInt(5), n}, 0)) {
            return false;
        }
        int page = 0;
        for (int i = 0; i < n; i++) {
            page = chance.argument("P", page);
            long v = chance.random.nextInt(200) == 0 ? chance.random.nextLong() : Math.min(63, Math.max(0, page));
            if (!same(1, new int[] {s, i}, v)) {
                return false;
            }
        }
        return true;
    }

    boolean levels() {
        for (int i = chance.random.nextInt(5); i > 0; i--) {
            if (!same(10, new int[] {chance.argument("Z", 0), chance.random.nextInt(20), chance.argument("K", 0)}, 0)) {
                return false;
            }
        }
        return same(12, new int[] {0, chance.random.nextInt(3)}, 0)
                && same(13, new int[] {0, chance.random.nextInt(6)}, 0);
    }

    boolean go() {
        boolean fine = levels() && fillRow() && fillRow();
        int page = 0;
        while (fine && calls < CALLS) {
            if (chance.random.nextInt(80) == 0) {
                fine = feedText();
                continue;
            }
            if (chance.random.nextInt(200) == 0) {
                fine = fillRow();
                continue;
            }
            int call = chance.call();
            int[] a = new int[5];
            for (int i = 0; i < ARGUMENTS[call].length; i++) {
                a[i] = chance.argument(ARGUMENTS[call][i], page);
            }
            if (call == 14 || call == 15) {
                page = a[0];
            }
            fine = same(call, a, chance.random.nextLong());
        }
        return fine;
    }

    public static void main(String[] args) {
        int wrong = 0;
        for (int run = 0; run < RUNS && wrong < 3; run++) {
            wrong += new ModelTest(run).go() ? 0 : 1;
        }
        System.out.println(wrong == 0 ? RUNS + " runs are as the model's" : "runs are not as the model's");
        if (wrong != 0) {
            System.exit(1);
        }
    }
}
