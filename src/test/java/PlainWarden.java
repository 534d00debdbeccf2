import java.util.ArrayList;
import java.util.Comparator;
import java.util.List;

/**
 * The document said once more, in another way: nothing is kept but the pages' states, the zones and
 * the blocks with their own numbers. Free pieces, heads and the map are worked out from these each
 * time, so a fault in how RoomWarden keeps its pieces shows as a difference.
 */
final class PlainWarden {
    private static final int FREE_PAGE = -1;
    private static final int MISSING_PAGE = -2;

    private record Zone(int kind, long by) {}

    private record Piece(int start, int length) {
        int end() {
            return start + length;
        }
    }

    private record Entry(int place, int length, int kind, int handle, int zone) {}

    private static final class Block {
        int zone;
        int start;
        long[] numbers;
        long first;
        long last;

        Block same() {
            Block b = new Block();
            b.zone = zone;
            b.start = start;
            b.numbers = numbers.clone();
            b.first = first;
            b.last = last;
            return b;
        }
    }

    private static final class State {
        int[] pages = new int[0];
        List<Zone> zones = new ArrayList<>();
        Block[] blocks = new Block[100];
        int[] given = new int[100];
        int[] held = new int[4];

        State same() {
            State t = new State();
            t.pages = pages.clone();
            t.zones = new ArrayList<>(zones);
            for (int s = 0; s < 100; s++) {
                t.blocks[s] = blocks[s] == null ? null : blocks[s].same();
            }
            t.given = given.clone();
            t.held = held.clone();
            return t;
        }
    }

    private State now = new State();
    private State kept = null;
    private long value = 0;
    private final int[] answered = new int[10];

    private int tell(int finding) {
        answered[-finding]++;
        return finding;
    }

    // Pieces, worked out from pages and blocks

    private int kind(int zone) {
        return now.zones.get(zone).kind();
    }

    private int most(int zone) {
        switch (kind(zone)) {
            case 0: return (int) now.zones.get(zone).by();
            case 1: return 64;
            default: return 2000;
        }
    }

    /** How long the piece of a block of a size is. */
    private int needs(int zone, int size) {
        switch (kind(zone)) {
            case 0: return most(zone);
            case 1: {
                int length = 1;
                while (length < size) length *= 2;
                return length;
            }
            case 5: return size + 3;
            default: return size + 1;
        }
    }

    private int ahead(int zone) {
        return kind(zone) < 2 ? 0 : kind(zone) == 5 ? 2 : 1;
    }

    private int blockEnd(Block b) {
        return b.start + needs(b.zone, b.numbers.length);
    }

    private Block blockOver(int place) {
        for (Block b : now.blocks) {
            if (b != null && b.start <= place && place < blockEnd(b)) return b;
        }
        return null;
    }

    /** By place, whether a block's piece lies over it. */
    private boolean[] covered() {
        boolean[] covered = new boolean[now.pages.length * 64];
        for (Block b : now.blocks) {
            if (b != null) java.util.Arrays.fill(covered, b.start, blockEnd(b), true);
        }
        return covered;
    }

    private List<Piece> freePieces(int zone) {
        List<Piece> free = new ArrayList<>();
        boolean[] covered = covered();
        if (kind(zone) >= 2) {
            int start = -1;
            for (int p = 0; p <= now.pages.length * 64; p++) {
                boolean isFree = p < now.pages.length * 64 && now.pages[p / 64] == zone && !covered[p];
                if (isFree && start < 0) start = p;
                if (!isFree && start >= 0) {
                    free.add(new Piece(start, p - start));
                    start = -1;
                }
            }
            return free;
        }
        for (int k = 0; k < now.pages.length; k++) {
            if (now.pages[k] != zone) continue;
            if (kind(zone) == 1) {
                addBuddies(free, covered, k * 64, 64);
            } else {
                for (int p = 1; p + most(zone) <= 64; p += most(zone)) {
                    if (!covered[k * 64 + p]) free.add(new Piece(k * 64 + p, most(zone)));
                }
            }
        }
        return free;
    }

    /** Each part of a page that is wholly free and as long as can be, at a place that its length divides. */
    private void addBuddies(List<Piece> free, boolean[] covered, int start, int length) {
        int taken = 0;
        for (int p = start; p < start + length; p++) {
            if (covered[p]) taken++;
        }
        if (taken == 0) {
            free.add(new Piece(start, length));
        } else if (taken < length) {
            addBuddies(free, covered, start, length / 2);
            addBuddies(free, covered, start + length / 2, length / 2);
        }
    }

    private Piece choose(int zone, int length) {
        Comparator<Piece> order = Comparator.comparingInt(Piece::start);
        if (kind(zone) == 1 || kind(zone) == 3) order = Comparator.comparingInt(Piece::length).thenComparing(order);
        if (kind(zone) == 2) order = Comparator.comparingInt(Piece::length).reversed().thenComparing(order);
        return freePieces(zone).stream().filter(p -> p.length() >= length).min(order).orElse(null);
    }

    private int pagesFor(int zone, int size) {
        return kind(zone) < 2 ? 1 : (needs(zone, size) + 63) / 64;
    }

    private int freeRun(int n) {
        for (int k = 0; k + n <= now.pages.length; k++) {
            boolean all = true;
            for (int j = k; j < k + n; j++) {
                all &= now.pages[j] == FREE_PAGE;
            }
            if (all) return k;
        }
        return -1;
    }

    private boolean isFull(int zone, int size) {
        return choose(zone, needs(zone, size)) == null && freeRun(pagesFor(zone, size)) < 0;
    }

    private int startFor(int zone, int size) {
        Piece p = choose(zone, needs(zone, size));
        if (p == null) {
            int n = pagesFor(zone, size);
            int first = freeRun(n);
            for (int k = first; k < first + n; k++) {
                now.pages[k] = zone;
            }
            p = choose(zone, needs(zone, size));
        }
        return p.start();
    }

    private void letGo(int zone) {
        List<Piece> free = freePieces(zone);
        boolean[] covered = covered();
        for (int k = 0; k < now.pages.length; k++) {
            if (now.pages[k] != zone) continue;
            int from = k * 64;
            boolean goes;
            if (kind(zone) == 0) {
                goes = true;
                for (int p = from; p < from + 64; p++) {
                    goes &= !covered[p];
                }
            } else {
                goes = free.stream().anyMatch(p -> p.start() <= from && from + 64 <= p.end());
            }
            if (goes) now.pages[k] = FREE_PAGE;
        }
    }

    // Handles

    private int find(int handle) {
        if (handle < 0 || now.given[handle % 100] <= handle / 100) return -4;
        boolean there = now.blocks[handle % 100] != null && now.given[handle % 100] == handle / 100 + 1;
        return there ? handle % 100 : -5;
    }

    private int handleOf(int s) {
        return 100 * (now.given[s] - 1) + s;
    }

    private int spoiled(Block b) {
        if (kind(b.zone) != 5) return 0;
        long w = now.zones.get(b.zone).by();
        return (b.first == w ? 0 : 1) + (b.last == w ? 0 : 2);
    }

    private Block given(int zone, int size) {
        Block b = new Block();
        b.zone = zone;
        b.start = startFor(zone, size);
        b.numbers = new long[size];
        b.first = now.zones.get(zone).by();
        b.last = b.first;
        return b;
    }

    // The map

    private List<Entry> entries() {
        List<Entry> all = new ArrayList<>();
        for (int k = 0; k < now.pages.length; k++) {
            if (now.pages[k] < 0) {
                all.add(new Entry(k * 64, 64, now.pages[k] == FREE_PAGE ? 0 : 1, -1, -1));
            } else if (kind(now.pages[k]) == 0) {
                int zone = now.pages[k];
                int waste = 63 % most(zone);
                all.add(new Entry(k * 64, 1, 2, -1, zone));
                all.add(new Entry(k * 64 + 64 - waste, waste, 5, -1, zone));
            }
        }
        for (int zone = 0; zone < now.zones.size(); zone++) {
            int head = kind(zone) < 2 ? 0 : 1;
            for (Piece p : freePieces(zone)) {
                all.add(new Entry(p.start(), head, 2, -1, zone));
                all.add(new Entry(p.start() + head, p.length() - head, 4, -1, zone));
            }
        }
        for (int s = 0; s < 100; s++) {
            Block b = now.blocks[s];
            if (b == null) continue;
            int first = b.start + ahead(b.zone);
            int length = kind(b.zone) < 2 ? needs(b.zone, b.numbers.length) : b.numbers.length;
            if (kind(b.zone) >= 2) all.add(new Entry(b.start, 1, 2, -1, b.zone));
            all.add(new Entry(first, length, 3, handleOf(s), b.zone));
            if (kind(b.zone) == 5) {
                all.add(new Entry(first - 1, 1, 6, handleOf(s), b.zone));
                all.add(new Entry(first + length, 1, 6, handleOf(s), b.zone));
            }
        }
        all.removeIf(e -> e.length() == 0);
        all.sort(Comparator.comparingInt(Entry::place));
        return all;
    }

    private long numberAt(int place) {
        Block b = blockOver(place);
        if (b == null) return 0;
        int i = place - b.start - ahead(b.zone);
        if (i >= 0 && i < b.numbers.length) return b.numbers[i];
        if (kind(b.zone) == 5 && i == -1) return b.first;
        if (kind(b.zone) == 5 && i == b.numbers.length) return b.last;
        return 0;
    }

    // The promises

    int open(int n) {
        if (n < 0) return tell(-3);
        if (n > 40) return tell(-1);
        now = new State();
        now.pages = new int[n];
        java.util.Arrays.fill(now.pages, FREE_PAGE);
        value = 0;
        return n;
    }

    int page(int k, boolean there) {
        if (k < 0 || k >= now.pages.length) return tell(-1);
        if (now.pages[k] >= 0) return tell(-7);
        int state = there ? FREE_PAGE : MISSING_PAGE;
        int isNew = now.pages[k] != state ? 1 : 0;
        now.pages[k] = state;
        return isNew;
    }

    int zone(int kind, long by) {
        if (kind < 0 || kind > 5) return tell(-9);
        if (kind == 0 && (by < 1 || by > 32)) return tell(-1);
        if (now.zones.size() == 8) return tell(-6);
        now.zones.add(new Zone(kind, by));
        return now.zones.size() - 1;
    }

    int want(int zone, int size) {
        if (zone < 0 || zone >= now.zones.size()) return tell(-1);
        if (size < 0) return tell(-3);
        if (size > most(zone)) return tell(-1);
        if (count(3) == 100 || isFull(zone, size)) return tell(-6);
        int s = 0;
        while (now.blocks[s] != null) s++;
        now.blocks[s] = given(zone, size);
        now.given[s]++;
        letGo(zone);
        return handleOf(s);
    }

    int give(int handle) {
        int s = find(handle);
        if (s < 0) return tell(s);
        Block b = now.blocks[s];
        if (spoiled(b) != 0) return tell(-8);
        now.blocks[s] = null;
        letGo(b.zone);
        return b.numbers.length;
    }

    int grow(int handle, int size) {
        int s = find(handle);
        if (s < 0) return tell(s);
        Block b = now.blocks[s];
        if (spoiled(b) != 0) return tell(-8);
        int had = b.numbers.length;
        if (size < had || size > most(b.zone)) return tell(-1);
        boolean stays = size == had || kind(b.zone) == 0;
        if (kind(b.zone) == 1) stays |= needs(b.zone, had) >= size;
        if (kind(b.zone) >= 2) {
            stays |= freePieces(b.zone).stream().anyMatch(p -> p.start() == blockEnd(b) && p.length() >= size - had);
        }
        if (stays) {
            b.numbers = java.util.Arrays.copyOf(b.numbers, size);
            return 1;
        }
        if (isFull(b.zone, size)) return tell(-6);
        Block other = given(b.zone, size);
        System.arraycopy(b.numbers, 0, other.numbers, 0, had);
        now.blocks[s] = other;
        letGo(b.zone);
        return 2;
    }

    int shrink(int handle, int size) {
        int s = find(handle);
        if (s < 0) return tell(s);
        Block b = now.blocks[s];
        if (spoiled(b) != 0) return tell(-8);
        if (size < 0) return tell(-3);
        int less = b.numbers.length - size;
        if (less < 0) return tell(-1);
        b.numbers = java.util.Arrays.copyOf(b.numbers, size);
        letGo(b.zone);
        return less;
    }

    int write(int handle, int i, long v) {
        int s = find(handle);
        if (s < 0) return tell(s);
        if (i < 0 || i >= now.blocks[s].numbers.length) return tell(-1);
        now.blocks[s].numbers[i] = v;
        return 0;
    }

    int read(int handle, int i) {
        int s = find(handle);
        if (s < 0) return tell(s);
        if (i < 0 || i >= now.blocks[s].numbers.length) return tell(-1);
        value = now.blocks[s].numbers[i];
        return 0;
    }

    long value() {
        return value;
    }

    int copy(int from, int i, int to, int j, int n) {
        int s = find(from);
        if (s < 0) return tell(s);
        int t = find(to);
        if (t < 0) return tell(t);
        if (n < 0) return tell(-3);
        long[] a = now.blocks[s].numbers;
        long[] b = now.blocks[t].numbers;
        if (i < 0 || j < 0 || (long) i + n > a.length || (long) j + n > b.length) return tell(-1);
        long[] taken = java.util.Arrays.copyOfRange(a, i, i + n);
        System.arraycopy(taken, 0, b, j, n);
        return n;
    }

    int fill(int handle, long v) {
        int s = find(handle);
        if (s < 0) return tell(s);
        java.util.Arrays.fill(now.blocks[s].numbers, v);
        return now.blocks[s].numbers.length;
    }

    int block(int handle, int what) {
        int s = find(handle);
        if (s < 0) return tell(s);
        Block b = now.blocks[s];
        switch (what) {
            case 0: return b.numbers.length;
            case 1: return b.zone;
            case 2: return b.start + ahead(b.zone);
            case 3: return spoiled(b);
            default: return tell(-1);
        }
    }

    int spoil(int handle, boolean last, long v) {
        int s = find(handle);
        if (s < 0) return tell(s);
        Block b = now.blocks[s];
        if (kind(b.zone) != 5) return tell(-9);
        if (last) b.last = v;
        else b.first = v;
        return 0;
    }

    int peek(int place) {
        if (place < 0 || place >= now.pages.length * 64) return tell(-1);
        if (now.pages[place / 64] == MISSING_PAGE) return tell(-2);
        value = numberAt(place);
        for (Entry e : entries()) {
            if (place < e.place() + e.length()) return e.kind();
        }
        return -100;
    }

    int largest(int zone) {
        if (zone < 0 || zone >= now.zones.size()) return tell(-1);
        for (int size = most(zone); size >= 0; size--) {
            if (freeRun(pagesFor(zone, size)) >= 0) return Math.max(size, largestPiece(zone));
        }
        int size = largestPiece(zone);
        return size < 0 ? tell(-6) : size;
    }

    private int largestPiece(int zone) {
        int longest = -1;
        for (Piece p : freePieces(zone)) {
            longest = Math.max(longest, p.length());
        }
        int size = kind(zone) == 5 ? longest - 3 : kind(zone) >= 2 ? longest - 1 : longest;
        return Math.min(size, most(zone));
    }

    int told(int zone, int what) {
        if (zone < 0 || zone >= now.zones.size() || what < 0 || what > 3) return tell(-1);
        if (what == 0) return kind(zone);
        if (what == 3) return freePieces(zone).size();
        int n = 0;
        if (what == 1) {
            for (int page : now.pages) if (page == zone) n++;
        } else {
            for (Block b : now.blocks) if (b != null && b.zone == zone) n++;
        }
        return n;
    }

    int map(int i, int what) {
        List<Entry> all = entries();
        if (i < 0 || i >= all.size() || what < 0 || what > 4) return tell(-1);
        Entry e = all.get(i);
        return new int[] {e.place(), e.length(), e.kind(), e.handle(), e.zone()}[what];
    }

    int count(int what) {
        int n = 0;
        switch (what) {
            case 0: return now.pages.length;
            case 1:
                for (int page : now.pages) if (page == FREE_PAGE) n++;
                return n;
            case 2: return now.zones.size();
            case 3:
                for (Block b : now.blocks) if (b != null) n++;
                return n;
            case 4: return entries().size();
            default: return tell(-1);
        }
    }

    int save() {
        kept = now.same();
        return 1;
    }

    int back() {
        if (kept == null) return tell(-4);
        now = kept.same();
        return 1;
    }

    int hold(int k, int code) {
        if (k < 0 || k > 3 || code < 0 || code > 99) return tell(-1);
        int had = now.held[k];
        now.held[k] = code;
        return had;
    }

    int throwIt(int k) {
        if (k < 0 || k > 3) return tell(-1);
        return now.held[k] == 0 ? tell(-4) : now.held[k];
    }

    int found(int finding) {
        if (finding > -1 || finding < -9) return tell(-1);
        return answered[-finding];
    }
}
