import java.util.ArrayList;
import java.util.Arrays;
import java.util.List;
import java.util.TreeMap;

/**
 * What the document says of any time, not of one call: asked after each act of mixed runs, by the public
 * face alone. The test keeps only what each block should hold; no second warden works anything out.
 */
public final class LawsTest {
    private static final int RUNS = 80;
    private static final int ACTS = 120;

    private record Entry(int place, int length, int kind, int handle, int zone) {
        int end() {
            return place + length;
        }
    }

    private record Zone(int kind, long by) {}

    private final Due due = new Due();
    private final RoomWarden x = new RoomWarden();
    private final TreeMap<Integer, long[]> blocks = new TreeMap<>();
    private final List<Zone> zones = new ArrayList<>();
    private final int pages;
    private final int[] findings = new int[10];
    private final int run;
    private long seed;

    private LawsTest(int run) {
        this.run = run;
        seed = run * 104729L + 77L;
        pages = 2 + next(12);
    }

    private int next(int n) {
        seed = seed * 6364136223846793005L + 1442695040888963407L;
        return (int) ((seed >>> 33) % n);
    }

    private int counted(int answer) {
        if (answer < 0) {
            findings[-answer]++;
        }
        return answer;
    }

    private void law(String words, boolean holds) {
        due.due(words, holds ? 1 : 0, 1);
    }

    private int kindOf(int zone) {
        return zones.get(zone).kind();
    }

    // The acts, and what each block should hold behind them

    private void begin() {
        x.open(pages);
        for (int z = 0; z < 1 + run % 4; z++) {
            int kind = (run + z) % 6;
            int by = 1 + next(32);
            zones.add(new Zone(kind, by));
            due.due("zone(" + kind + ", " + by + ")", x.zone(kind, by), z);
        }
    }

    private int someHandle() {
        List<Integer> all = new ArrayList<>(blocks.keySet());
        return all.isEmpty() || next(20) == 0 ? next(300) - 20 : all.get(next(all.size()));
    }

    private int someSize() {
        int[] bounds = {3, 12, 33, 65, 140, 400};
        return next(bounds[next(bounds.length)]);
    }

    private void act() {
        int h = someHandle();
        int size = someSize();
        switch (next(8)) {
            case 0: give(h); break;
            case 1: grow(h, (blocks.containsKey(h) ? blocks.get(h).length : 0) + next(30)); break;
            case 2: grow(h, size); break;
            case 3: shrink(h, size); break;
            case 4: counted(x.page(next(pages + 1), next(3) > 0)); break;
            default: want(next(zones.size()), size); break;
        }
    }

    private void want(int zone, int size) {
        due.part("run " + run + ", behind want(" + zone + ", " + size + ")");
        int h = counted(x.want(zone, size));
        if (h >= 0) {
            law("a new handle is no block's", !blocks.containsKey(h));
            blocks.put(h, new long[size]);
            sameNumbers(h);
            fill(h);
        }
    }

    private void fill(int h) {
        long v = 1 + next(1000);
        due.due("fill(" + h + ", " + v + ")", x.fill(h, v), blocks.get(h).length);
        Arrays.fill(blocks.get(h), v);
    }

    private void give(int h) {
        due.part("run " + run + ", behind give(" + h + ")");
        int answer = counted(x.give(h));
        law("give() answers the size, or a finding if no block has the handle",
                blocks.containsKey(h) ? answer == blocks.get(h).length : answer == -4 || answer == -5);
        blocks.remove(h);
    }

    private void grow(int h, int size) {
        due.part("run " + run + ", behind grow(" + h + ", " + size + ")");
        int place = blocks.containsKey(h) ? x.block(h, 2) : -1;
        int answer = counted(x.grow(h, size));
        if (answer > 0) {
            law("it was copied if its place is another one", (x.block(h, 2) == place) == (answer == 1));
            blocks.put(h, Arrays.copyOf(blocks.get(h), size));
        }
    }

    private void shrink(int h, int size) {
        due.part("run " + run + ", behind shrink(" + h + ", " + size + ")");
        int place = blocks.containsKey(h) ? x.block(h, 2) : -1;
        int answer = counted(x.shrink(h, size));
        if (answer >= 0) {
            law("what is cut off stays where it is", x.block(h, 2) == place);
            due.due("by how many", answer, blocks.get(h).length - size);
            blocks.put(h, Arrays.copyOf(blocks.get(h), size));
        }
    }

    // The laws

    private void sameNumbers(int h) {
        long[] numbers = blocks.get(h);
        due.due("block(" + h + ", 0)", x.block(h, 0), numbers.length);
        for (int i = 0; i < numbers.length; i++) {
            due.number(x, h, i, numbers[i]);
        }
    }

    private List<Entry> entries() {
        List<Entry> all = new ArrayList<>();
        int n = x.count(4);
        for (int i = 0; i < n; i++) {
            all.add(new Entry(x.map(i, 0), x.map(i, 1), x.map(i, 2), x.map(i, 3), x.map(i, 4)));
        }
        return all;
    }

    private void checkMap(List<Entry> all) {
        int at = 0;
        int free = 0;
        for (Entry e : all) {
            law("the entries are without a gap", e.place() == at);
            at = e.end();
            boolean isPage = e.kind() < 2;
            law("a page is an entry of its own", !isPage || e.length() == 64 && e.place() % 64 == 0);
            law("a page has no zone, all else has one", isPage == (e.zone() == -1));
            law("blocks and guard words have a handle, all else none",
                    e.kind() == 3 || e.kind() == 6 ? blocks.containsKey(e.handle()) : e.handle() == -1);
            law("a head and a guard word are one number", e.kind() != 2 && e.kind() != 6 || e.length() == 1);
            free += e.kind() == 0 ? 1 : 0;
        }
        law("the entries are all places", at == 64 * pages);
        due.due("count(1)", x.count(1), free);
        due.due("count(3)", x.count(3), blocks.size());
    }

    /** By place the entry in which it is. */
    private Entry[] places(List<Entry> all) {
        Entry[] places = new Entry[64 * pages];
        for (Entry e : all) {
            Arrays.fill(places, e.place(), e.end(), e);
        }
        return places;
    }

    private int lengthOf(int zone, int size) {
        switch (kindOf(zone)) {
            case 0: return (int) zones.get(zone).by();
            case 1: return Math.max(1, 2 * Integer.highestOneBit(Math.max(1, size) - 1));
            case 5: return size + 3;
            default: return size + 1;
        }
    }

    /** Checks each block's own entries; answers by place whether a block's piece lies over it. */
    private boolean[] checkBlocks(Entry[] places) {
        boolean[] taken = new boolean[64 * pages];
        for (int h : blocks.keySet()) {
            int size = blocks.get(h).length;
            int zone = x.block(h, 1);
            int first = x.block(h, 2);
            int kind = kindOf(zone);
            int start = kind < 2 ? first : kind == 5 ? first - 2 : first - 1;
            int length = lengthOf(zone, size);
            for (int p = start; p < start + length; p++) {
                law("no two blocks have a number in common", !taken[p]);
                law("a block lies in pages of its zone", places[p].zone() == zone);
                taken[p] = true;
            }
            int shown = kind < 2 ? length : size;
            Entry own = new Entry(first, shown, 3, h, zone);
            law("a block is one entry", shown == 0 || places[first].equals(own));
            law("a head is ahead of it", kind < 2 || places[start].kind() == 2 && places[start].place() == start);
            if (kind == 5) {
                checkWord(places, first - 1, h, zone);
                checkWord(places, first + size, h, zone);
            }
        }
        return taken;
    }

    private void checkWord(Entry[] places, int place, int h, int zone) {
        law("a guard word is there", places[place].equals(new Entry(place, 1, 6, h, zone)));
        due.at(x, place, 6, zones.get(zone).by());
    }

    private void checkNumbers(Entry[] places) {
        for (int p = 0; p < places.length; p++) {
            int kind = places[p].kind();
            if (kind == 1) {
                due.due("peek(" + p + ")", counted(x.peek(p)), -2);
            } else if (kind != 3 && kind != 6) {
                due.at(x, p, kind, 0);
            }
        }
    }

    private void checkSlabPage(Entry[] places, boolean[] taken, int k, int zone) {
        int c = (int) zones.get(zone).by();
        law("a SLAB page begins with a head", places[64 * k].equals(new Entry(64 * k, 1, 2, -1, zone)));
        int p = 64 * k + 1;
        for (; p + c <= 64 * k + 64; p += c) {
            Entry e = places[p];
            law("a slot is one entry", e.place() == p && e.length() == c && e.kind() == (taken[p] ? 3 : 4));
        }
        if (p < 64 * k + 64) {
            law("what is left is waste", places[p].equals(new Entry(p, 64 * k + 64 - p, 5, -1, zone)));
        }
    }

    private void checkBuddyPage(Entry[] places, int k) {
        for (int p = 64 * k; p < 64 * k + 64; p = places[p].end()) {
            Entry e = places[p];
            law("a piece is 1, 2, 4, .. long", Integer.bitCount(e.length()) == 1);
            law("its length divides its place", e.place() % e.length() == 0);
            if (e.kind() == 4 && e.length() < 64) {
                Entry pair = places[e.place() ^ e.length()];
                law("no free piece has a free pair of its length", pair.kind() != 4 || pair.length() != e.length());
            }
        }
    }

    private boolean isOf(Entry[] places, int p, int zone) {
        return p >= 0 && p < places.length && places[p].zone() == zone;
    }

    /** What no block has between two blocks, or at an end of a row, is one free piece. */
    private int checkRows(Entry[] places, boolean[] taken, int zone) {
        int n = 0;
        for (int p = 0; p < places.length; p++) {
            boolean begins = isOf(places, p, zone) && !taken[p]
                    && (!isOf(places, p - 1, zone) || taken[p - 1]);
            if (!begins) continue;
            n++;
            int end = p + 1;
            while (isOf(places, end, zone) && !taken[end]) end++;
            law("a free piece begins with a head", places[p].equals(new Entry(p, 1, 2, -1, zone)));
            if (end > p + 1) {
                Entry behind = new Entry(p + 1, end - p - 1, 4, -1, zone);
                law("all behind its head is one entry", places[p + 1].equals(behind));
            }
        }
        return n;
    }

    private void checkPages(Entry[] places, boolean[] taken) {
        for (int k = 0; k < pages; k++) {
            int zone = places[64 * k].zone();
            if (zone < 0) continue;
            boolean used = false;
            for (int p = 64 * k; p < 64 * k + 64; p++) {
                law("a page is of one zone", places[p].zone() == zone);
                used |= taken[p];
            }
            law("zones keep no page that is wholly free", used);
            if (kindOf(zone) == 0) checkSlabPage(places, taken, k, zone);
            if (kindOf(zone) == 1) checkBuddyPage(places, k);
        }
    }

    private void checkTold(Entry[] places, List<Entry> all, boolean[] taken) {
        for (int zone = 0; zone < zones.size(); zone++) {
            int own = 0;
            int free = 0;
            int given = 0;
            for (int k = 0; k < pages; k++) {
                own += places[64 * k].zone() == zone ? 1 : 0;
            }
            for (int h : blocks.keySet()) {
                given += x.block(h, 1) == zone ? 1 : 0;
            }
            for (Entry e : all) {
                free += e.zone() == zone && e.kind() == 4 ? 1 : 0;
            }
            due.due("told(" + zone + ", 0)", x.told(zone, 0), kindOf(zone));
            due.due("told(" + zone + ", 1)", x.told(zone, 1), own);
            due.due("told(" + zone + ", 2)", x.told(zone, 2), given);
            int pieces = kindOf(zone) < 2 ? free : checkRows(places, taken, zone);
            due.due("told(" + zone + ", 3)", x.told(zone, 3), pieces);
        }
    }

    /** The greatest size is one that want() gives, and the next one isn't; back() takes the asking away. */
    private void checkLargest() {
        x.save();
        for (int zone = 0; zone < zones.size() && blocks.size() < 100; zone++) {
            int largest = counted(x.largest(zone));
            int most = kindOf(zone) == 0 ? (int) zones.get(zone).by() : kindOf(zone) == 1 ? 64 : 2000;
            if (largest < most) {
                due.due("want(" + zone + ", more than the largest)", counted(x.want(zone, Math.max(0, largest + 1))), -6);
            }
            if (largest >= 0) {
                law("the largest is given", x.want(zone, largest) >= 0);
                x.back();
            }
        }
    }

    private void checkFound() {
        for (int finding = 1; finding <= 9; finding++) {
            due.due("found(-" + finding + ")", x.found(-finding), findings[finding]);
        }
    }

    private void checkLaws() {
        List<Entry> all = entries();
        checkMap(all);
        Entry[] places = places(all);
        boolean[] taken = checkBlocks(places);
        checkNumbers(places);
        checkPages(places, taken);
        checkTold(places, all, taken);
        checkLargest();
        for (int h : blocks.keySet()) {
            sameNumbers(h);
        }
        checkFound();
    }

    private boolean isWrong() {
        begin();
        for (int i = 0; i < ACTS && !due.isWrong(); i++) {
            act();
            checkLaws();
        }
        return due.isWrong();
    }

    public static void main(String[] args) {
        int runs = args.length > 0 ? Integer.parseInt(args[0]) : RUNS;
        int wrong = 0;
        for (int run = 0; run < runs && wrong < 3; run++) {
            if (new LawsTest(run).isWrong()) wrong++;
        }
        System.out.println(runs + " runs, " + wrong + " of them break a law");
        if (wrong > 0) System.exit(1);
    }
}
