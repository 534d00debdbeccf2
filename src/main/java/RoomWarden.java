import java.util.Arrays;

/**
 * A warden of memory: zones of six kinds give out pieces of pages as blocks, and a map tells whose
 * every number is. The document's promises say what each public method answers.
 */
public final class RoomWarden {
    private static final int BEYOND = -1;
    private static final int MISSING = -2;
    private static final int SIZE = -3;
    private static final int NOTHING = -4;
    private static final int OLD = -5;
    private static final int FULL = -6;
    private static final int BUSY = -7;
    private static final int GUARD = -8;
    private static final int KIND = -9;
    private static final int FINDINGS = 9;

    private static final int PAGE = 64;
    private static final int MOST_PAGES = 40;
    private static final int MOST_PLACES = PAGE * MOST_PAGES;
    private static final int MOST_ZONES = 8;
    private static final int MOST_BLOCKS = 100;
    private static final int MOST_CLASS = 32;
    private static final int MOST_ROW_SIZE = 2000;
    private static final int HOLDS = 4;
    private static final int MOST_CODE = 99;

    private static final int KIND_SLAB = 0;
    private static final int KIND_BUDDY = 1;
    private static final int KIND_SPAN = 2;
    private static final int KIND_BEST = 3;
    private static final int KIND_GUARD = 5;

    private static final int ENTRY_FREE_PAGE = 0;
    private static final int ENTRY_MISSING_PAGE = 1;
    private static final int ENTRY_HEAD = 2;
    private static final int ENTRY_BLOCK = 3;
    private static final int ENTRY_FREE = 4;
    private static final int ENTRY_WASTE = 5;
    private static final int ENTRY_GUARD = 6;

    private static final int NO_ONE = -1;
    private static final int NOT_THERE = -2;
    private static final int NONE = -1;

    private final Room room;
    private final Chart chart;
    private final Keeper slabs;
    private final Keeper buddies;
    private final Keeper rows;
    private final int[] answered;
    private Room kept;
    private long theValue;

    public RoomWarden() {
        room = new Room();
        chart = new Chart(room);
        slabs = new SlabKeeper(room);
        buddies = new BuddyKeeper(room);
        rows = new RowKeeper(room);
        answered = new int[FINDINGS + 1];
        kept = null;
        theValue = 0L;
    }

    public int open(int n) {
        if (n < 0) {
            return tell(SIZE);
        }
        if (n > MOST_PAGES) {
            return tell(BEYOND);
        }
        room.beginAnew(n);
        theValue = 0L;
        return n;
    }

    public int page(int k, boolean there) {
        if (k < 0 || k >= room.pages) {
            return tell(BEYOND);
        }
        if (room.owner[k] >= 0) {
            return tell(BUSY);
        }
        int state = there ? NO_ONE : NOT_THERE;
        if (room.owner[k] == state) {
            return 0;
        }
        room.owner[k] = state;
        return 1;
    }

    public int zone(int kind, long by) {
        if (kind < KIND_SLAB || kind > KIND_GUARD) {
            return tell(KIND);
        }
        if (kind == KIND_SLAB && (by < 1L || by > MOST_CLASS)) {
            return tell(BEYOND);
        }
        if (room.zones >= MOST_ZONES) {
            return tell(FULL);
        }
        return room.addZone(kind, by);
    }

    public int want(int zone, int size) {
        if (!room.hasZone(zone)) {
            return tell(BEYOND);
        }
        if (size < 0) {
            return tell(SIZE);
        }
        Keeper keeper = keeperOf(zone);
        if (size > keeper.mostOf(zone)) {
            return tell(BEYOND);
        }
        int s = room.lowestUnused();
        if (s < 0) {
            return tell(FULL);
        }
        int place = keeper.takePiece(zone, size);
        if (place < 0) {
            return tell(FULL);
        }
        room.given[s]++;
        room.putBlock(s, zone, place, size);
        keeper.tidy(zone);
        return room.handleOf(s);
    }

    public int give(int handle) {
        int s = room.find(handle);
        if (s < 0) {
            return tell(s);
        }
        if (room.spoiledWords(s) != 0) {
            return tell(GUARD);
        }
        int zone = room.blockZone[s];
        room.vacate(room.blockPlace[s], room.blockLength[s]);
        room.blockZone[s] = NONE;
        keeperOf(zone).tidy(zone);
        return room.blockSize[s];
    }

    public int grow(int handle, int size) {
        int s = room.find(handle);
        if (s < 0) {
            return tell(s);
        }
        if (room.spoiledWords(s) != 0) {
            return tell(GUARD);
        }
        int zone = room.blockZone[s];
        Keeper keeper = keeperOf(zone);
        if (size < room.blockSize[s] || size > keeper.mostOf(zone)) {
            return tell(BEYOND);
        }
        if (size == room.blockSize[s]) {
            return 1;
        }
        if (keeper.fits(s, size)) {
            resize(keeper, s, size);
            return 1;
        }
        int place = keeper.takePiece(zone, size);
        if (place < 0) {
            return tell(FULL);
        }
        room.moveBlock(s, place, size);
        keeper.tidy(zone);
        return 2;
    }

    public int shrink(int handle, int size) {
        int s = room.find(handle);
        if (s < 0) {
            return tell(s);
        }
        if (room.spoiledWords(s) != 0) {
            return tell(GUARD);
        }
        if (size < 0) {
            return tell(SIZE);
        }
        int less = room.blockSize[s] - size;
        if (less < 0) {
            return tell(BEYOND);
        }
        if (less > 0) {
            resize(keeperOf(room.blockZone[s]), s, size);
        }
        return less;
    }

    public int write(int handle, int i, long v) {
        int s = room.find(handle);
        if (s < 0) {
            return tell(s);
        }
        if (i < 0 || i >= room.blockSize[s]) {
            return tell(BEYOND);
        }
        room.setNumber(room.firstNumber(s) + i, v);
        return 0;
    }

    public int read(int handle, int i) {
        int s = room.find(handle);
        if (s < 0) {
            return tell(s);
        }
        if (i < 0 || i >= room.blockSize[s]) {
            return tell(BEYOND);
        }
        theValue = room.numberAt(room.firstNumber(s) + i);
        return 0;
    }

    public long value() {
        return theValue;
    }

    public int copy(int from, int i, int to, int j, int n) {
        int source = room.find(from);
        if (source < 0) {
            return tell(source);
        }
        int target = room.find(to);
        if (target < 0) {
            return tell(target);
        }
        if (n < 0) {
            return tell(SIZE);
        }
        if (!room.hasNumbers(source, i, n) || !room.hasNumbers(target, j, n)) {
            return tell(BEYOND);
        }
        room.copyNumbers(room.firstNumber(source) + i, room.firstNumber(target) + j, n);
        return n;
    }

    public int fill(int handle, long v) {
        int s = room.find(handle);
        if (s < 0) {
            return tell(s);
        }
        room.setNumbers(room.firstNumber(s), room.blockSize[s], v);
        return room.blockSize[s];
    }

    public int block(int handle, int what) {
        int s = room.find(handle);
        if (s < 0) {
            return tell(s);
        }
        switch (what) {
            case 0:
                return room.blockSize[s];
            case 1:
                return room.blockZone[s];
            case 2:
                return room.firstNumber(s);
            case 3:
                return room.spoiledWords(s);
            default:
                return tell(BEYOND);
        }
    }

    public int spoil(int handle, boolean last, long v) {
        int s = room.find(handle);
        if (s < 0) {
            return tell(s);
        }
        if (!room.isGuarded(s)) {
            return tell(KIND);
        }
        room.setNumber(last ? room.lastWord(s) : room.firstWord(s), v);
        return 0;
    }

    public int peek(int place) {
        if (place < 0 || place >= room.places()) {
            return tell(BEYOND);
        }
        if (room.ownerAt(place) == NOT_THERE) {
            return tell(MISSING);
        }
        theValue = room.numberAt(place);
        return chart.kindAt(place);
    }

    public int largest(int zone) {
        if (!room.hasZone(zone)) {
            return tell(BEYOND);
        }
        int size = keeperOf(zone).greatest(zone);
        return size < 0 ? tell(FULL) : size;
    }

    public int told(int zone, int what) {
        if (!room.hasZone(zone)) {
            return tell(BEYOND);
        }
        switch (what) {
            case 0:
                return room.zoneKind[zone];
            case 1:
                return room.pagesOf(zone);
            case 2:
                return room.blocksOf(zone);
            case 3:
                return room.freePiecesOf(zone);
            default:
                return tell(BEYOND);
        }
    }

    public int map(int i, int what) {
        if (what < 0 || what > 4 || !chart.seek(i)) {
            return tell(BEYOND);
        }
        switch (what) {
            case 0:
                return chart.place;
            case 1:
                return chart.length;
            case 2:
                return chart.kind;
            case 3:
                return chart.handle();
            default:
                return chart.zoneNumber();
        }
    }

    public int count(int what) {
        switch (what) {
            case 0:
                return room.pages;
            case 1:
                return room.pagesOf(NO_ONE);
            case 2:
                return room.zones;
            case 3:
                return room.blocks();
            case 4:
                return chart.entries();
            default:
                return tell(BEYOND);
        }
    }

    public int save() {
        if (kept == null) {
            kept = new Room();
        }
        kept.become(room);
        return 1;
    }

    public int back() {
        if (kept == null) {
            return tell(NOTHING);
        }
        room.become(kept);
        return 1;
    }

    public int hold(int k, int code) {
        if (k < 0 || k >= HOLDS) {
            return tell(BEYOND);
        }
        if (code < 0 || code > MOST_CODE) {
            return tell(BEYOND);
        }
        int had = room.held[k];
        room.held[k] = code;
        return had;
    }

    /** Nothing can be seen of a throw that is caught in the same call, so the code alone is told. */
    public int throwIt(int k) {
        if (k < 0 || k >= HOLDS) {
            return tell(BEYOND);
        }
        if (room.held[k] == 0) {
            return tell(NOTHING);
        }
        return room.held[k];
    }

    public int found(int finding) {
        if (finding > BEYOND || finding < KIND) {
            return tell(BEYOND);
        }
        return answered[-finding];
    }

    private int tell(int finding) {
        if (finding <= BEYOND && finding >= KIND) {
            answered[-finding]++;
        }
        return finding;
    }

    private Keeper keeperOf(int zone) {
        switch (room.kindOf(zone)) {
            case KIND_SLAB:
                return slabs;
            case KIND_BUDDY:
                return buddies;
            default:
                return rows;
        }
    }

    /** The block stays where it begins. Its last guard word moves, so both are lifted ahead of that. */
    private void resize(Keeper keeper, int s, int size) {
        room.setWords(s, 0L);
        room.setNumbers(room.firstNumber(s) + size, room.blockSize[s] - size, 0L);
        keeper.reshape(s, size);
        room.blockSize[s] = size;
        room.setWords(s, room.wordOf(s));
        keeper.tidy(room.blockZone[s]);
    }

    /** All that save() keeps: pages, numbers, pieces, zones, blocks, and what is held. */
    private static final class Room {
        final int[] owner = new int[MOST_PAGES];
        final long[] numbers = new long[MOST_PLACES];
        /** Where a piece or slot begins, its length if it is free, -1 - s if block s has it; else 0. */
        final int[] piece = new int[MOST_PLACES];
        final int[] zoneKind = new int[MOST_ZONES];
        final long[] zoneBy = new long[MOST_ZONES];
        final int[] given = new int[MOST_BLOCKS];
        final int[] blockZone = new int[MOST_BLOCKS];
        final int[] blockPlace = new int[MOST_BLOCKS];
        final int[] blockLength = new int[MOST_BLOCKS];
        final int[] blockSize = new int[MOST_BLOCKS];
        final int[] held = new int[HOLDS];
        int pages;
        int zones;

        Room() {
            pages = 0;
            zones = 0;
            Arrays.fill(blockZone, NONE);
        }

        void beginAnew(int n) {
            pages = n;
            zones = 0;
            Arrays.fill(owner, NO_ONE);
            Arrays.fill(numbers, 0L);
            Arrays.fill(piece, 0);
            Arrays.fill(given, 0);
            Arrays.fill(blockZone, NONE);
            Arrays.fill(held, 0);
        }

        void become(Room other) {
            pages = other.pages;
            zones = other.zones;
            System.arraycopy(other.owner, 0, owner, 0, MOST_PAGES);
            System.arraycopy(other.numbers, 0, numbers, 0, MOST_PLACES);
            System.arraycopy(other.piece, 0, piece, 0, MOST_PLACES);
            System.arraycopy(other.zoneKind, 0, zoneKind, 0, MOST_ZONES);
            System.arraycopy(other.zoneBy, 0, zoneBy, 0, MOST_ZONES);
            System.arraycopy(other.given, 0, given, 0, MOST_BLOCKS);
            System.arraycopy(other.blockZone, 0, blockZone, 0, MOST_BLOCKS);
            System.arraycopy(other.blockPlace, 0, blockPlace, 0, MOST_BLOCKS);
            System.arraycopy(other.blockLength, 0, blockLength, 0, MOST_BLOCKS);
            System.arraycopy(other.blockSize, 0, blockSize, 0, MOST_BLOCKS);
            System.arraycopy(other.held, 0, held, 0, HOLDS);
        }

        // Pages and places

        int places() {
            return pages * PAGE;
        }

        int ownerAt(int place) {
            return place < 0 || place >= places() ? NOT_THERE : owner[place / PAGE];
        }

        int pagesOf(int who) {
            int n = 0;
            for (int k = 0; k < pages; k++) {
                if (owner[k] == who) {
                    n++;
                }
            }
            return n;
        }

        /** The first of the lowest free pages side by side, so many of them. */
        int freeRun(int wanted) {
            int run = 0;
            for (int k = 0; k < pages; k++) {
                run = owner[k] == NO_ONE ? run + 1 : 0;
                if (run == wanted) {
                    return k - wanted + 1;
                }
            }
            return NONE;
        }

        int longestFreeRun() {
            int longest = 0;
            int run = 0;
            for (int k = 0; k < pages; k++) {
                run = owner[k] == NO_ONE ? run + 1 : 0;
                longest = Math.max(longest, run);
            }
            return longest;
        }

        private boolean areThere(int place, int n) {
            return place >= 0 && n > 0 && n <= MOST_PLACES && place <= MOST_PLACES - n;
        }

        long numberAt(int place) {
            return place >= 0 && place < MOST_PLACES ? numbers[place] : 0L;
        }

        void setNumber(int place, long v) {
            if (place >= 0 && place < MOST_PLACES) {
                numbers[place] = v;
            }
        }

        void setNumbers(int place, int n, long v) {
            if (areThere(place, n)) {
                for (int p = place; p < place + n; p++) {
                    numbers[p] = v;
                }
            }
        }

        void copyNumbers(int from, int to, int n) {
            if (areThere(from, n) && areThere(to, n)) {
                System.arraycopy(numbers, from, numbers, to, n);
            }
        }

        // Pieces

        int pieceAt(int place) {
            return place >= 0 && place < MOST_PLACES ? piece[place] : 0;
        }

        void mark(int place, int mark) {
            if (place >= 0 && place < MOST_PLACES) {
                piece[place] = mark;
            }
        }

        int blockAt(int place) {
            int mark = pieceAt(place);
            return mark < 0 && mark >= -MOST_BLOCKS ? -1 - mark : NONE;
        }

        int freeAt(int place, int zone) {
            return ownerAt(place) == zone ? Math.max(0, pieceAt(place)) : 0;
        }

        /**
         * Where what begins at a place ends: a page that is no zone's, a slot or piece, and where
         * none begins, the head (at its page's beginning) or the waste of a SLAB.
         */
        int endOf(int place) {
            int offset = place % PAGE;
            if (ownerAt(place) < 0) {
                return place + PAGE - offset;
            }
            int s = blockAt(place);
            if (s >= 0) {
                return place + Math.max(1, blockLength[s]);
            }
            int free = pieceAt(place);
            if (free > 0) {
                return place + free;
            }
            return offset == 0 ? place + 1 : place + PAGE - offset;
        }

        int freePiecesOf(int zone) {
            int n = 0;
            for (int p = 0; p < places(); p = Math.max(p + 1, endOf(p))) {
                if (freeAt(p, zone) > 0) {
                    n++;
                }
            }
            return n;
        }

        void vacate(int place, int length) {
            setNumbers(place, length, 0L);
            mark(place, length);
        }

        // Zones

        boolean hasZone(int zone) {
            return zone >= 0 && zone < zones;
        }

        int addZone(int kind, long by) {
            int zone = zones;
            zoneKind[zone] = kind;
            zoneBy[zone] = by;
            zones++;
            return zone;
        }

        int kindOf(int zone) {
            return hasZone(zone) ? zoneKind[zone] : NONE;
        }

        int classOf(int zone) {
            return hasZone(zone) ? (int) Math.max(1L, Math.min(zoneBy[zone], MOST_CLASS)) : 1;
        }

        boolean isRowZone(int zone) {
            return kindOf(zone) >= KIND_SPAN;
        }

        // Blocks

        /** The block of a handle, or the finding that there is none. */
        int find(int handle) {
            if (handle < 0) {
                return NOTHING;
            }
            int s = handle % MOST_BLOCKS;
            int g = handle / MOST_BLOCKS;
            if (given[s] <= g) {
                return NOTHING;
            }
            return blockZone[s] < 0 || given[s] - 1 != g ? OLD : s;
        }

        int handleOf(int s) {
            return MOST_BLOCKS * (given[s] - 1) + s;
        }

        int lowestUnused() {
            for (int s = 0; s < MOST_BLOCKS; s++) {
                if (blockZone[s] < 0) {
                    return s;
                }
            }
            return NONE;
        }

        int blocks() {
            int n = 0;
            for (int s = 0; s < MOST_BLOCKS; s++) {
                if (blockZone[s] >= 0) {
                    n++;
                }
            }
            return n;
        }

        int blocksOf(int zone) {
            int n = 0;
            for (int s = 0; s < MOST_BLOCKS; s++) {
                if (blockZone[s] == zone) {
                    n++;
                }
            }
            return n;
        }

        /** The piece that begins at the place was made as long as the block needs it. */
        void putBlock(int s, int zone, int place, int size) {
            blockZone[s] = zone;
            blockPlace[s] = place;
            blockLength[s] = pieceAt(place);
            blockSize[s] = size;
            mark(place, -1 - s);
            setWords(s, wordOf(s));
        }

        void moveBlock(int s, int place, int size) {
            int oldFirst = firstNumber(s);
            int oldPlace = blockPlace[s];
            int oldLength = blockLength[s];
            int oldSize = blockSize[s];
            putBlock(s, blockZone[s], place, size);
            copyNumbers(oldFirst, firstNumber(s), oldSize);
            vacate(oldPlace, oldLength);
        }

        int firstNumber(int s) {
            int ahead = isGuarded(s) ? 2 : isRowZone(blockZone[s]) ? 1 : 0;
            return blockPlace[s] + ahead;
        }

        boolean hasNumbers(int s, int i, int n) {
            return i >= 0 && n >= 0 && i <= blockSize[s] - n;
        }

        // Guard words

        boolean isGuarded(int s) {
            return kindOf(blockZone[s]) == KIND_GUARD;
        }

        long wordOf(int s) {
            return hasZone(blockZone[s]) ? zoneBy[blockZone[s]] : 0L;
        }

        int firstWord(int s) {
            return blockPlace[s] + 1;
        }

        int lastWord(int s) {
            return blockPlace[s] + blockLength[s] - 1;
        }

        void setWords(int s, long word) {
            if (isGuarded(s)) {
                setNumber(firstWord(s), word);
                setNumber(lastWord(s), word);
            }
        }

        int spoiledWords(int s) {
            if (!isGuarded(s)) {
                return 0;
            }
            int first = numberAt(firstWord(s)) == wordOf(s) ? 0 : 1;
            int last = numberAt(lastWord(s)) == wordOf(s) ? 0 : 2;
            return first + last;
        }
    }

    /** What the kinds of zones do each in their own way. */
    private abstract static class Keeper {
        final Room room;

        Keeper(Room room) {
            this.room = room;
        }

        /** The greatest size that blocks of the zone may have. */
        abstract int mostOf(int zone);

        /** The greatest size for which there is a piece or free pages, or NONE. */
        abstract int greatest(int zone);

        /** Where a free piece now begins that is just as long as a block of the size needs it, or NONE. */
        abstract int takePiece(int zone, int size);

        /** Whether a block can grow to the size where it is. */
        abstract boolean fits(int s, int size);

        /** Makes a block's piece as long as the size needs it, where it is. */
        abstract void reshape(int s, int size);

        /** The end of each act: joins what is to be joined, and lets go the pages that are wholly free. */
        abstract void tidy(int zone);
    }

    private static final class SlabKeeper extends Keeper {
        SlabKeeper(Room room) {
            super(room);
        }

        int mostOf(int zone) {
            return room.classOf(zone);
        }

        int greatest(int zone) {
            return lowestFree(zone) >= 0 || room.freeRun(1) >= 0 ? room.classOf(zone) : NONE;
        }

        int takePiece(int zone, int size) {
            int slot = lowestFree(zone);
            if (slot >= 0) {
                return slot;
            }
            int k = room.freeRun(1);
            if (k < 0) {
                return NONE;
            }
            room.owner[k] = zone;
            markSlots(k, zone, room.classOf(zone));
            return k * PAGE + 1;
        }

        boolean fits(int s, int size) {
            return true;
        }

        void reshape(int s, int size) {
            // A block has its whole slot whatever its size is.
        }

        void tidy(int zone) {
            for (int k = 0; k < room.pages; k++) {
                if (room.owner[k] == zone && isWhollyFree(k, zone)) {
                    markSlots(k, zone, 0);
                    room.owner[k] = NO_ONE;
                }
            }
        }

        private int lowestFree(int zone) {
            for (int p = 0; p < room.places(); p = Math.max(p + 1, room.endOf(p))) {
                if (room.freeAt(p, zone) > 0) {
                    return p;
                }
            }
            return NONE;
        }

        private void markSlots(int k, int zone, int mark) {
            int step = Math.max(1, room.classOf(zone));
            int end = (k + 1) * PAGE;
            for (int p = k * PAGE + 1; p + step <= end; p += step) {
                room.mark(p, mark);
            }
        }

        private boolean isWhollyFree(int k, int zone) {
            int step = Math.max(1, room.classOf(zone));
            int end = (k + 1) * PAGE;
            for (int p = k * PAGE + 1; p + step <= end; p += step) {
                if (room.blockAt(p) >= 0) {
                    return false;
                }
            }
            return true;
        }
    }

    private static final class BuddyKeeper extends Keeper {
        BuddyKeeper(Room room) {
            super(room);
        }

        int mostOf(int zone) {
            return PAGE;
        }

        int greatest(int zone) {
            if (room.freeRun(1) >= 0) {
                return PAGE;
            }
            int longest = 0;
            for (int p = 0; p < room.places(); p = Math.max(p + 1, room.endOf(p))) {
                longest = Math.max(longest, room.freeAt(p, zone));
            }
            return longest > 0 ? longest : NONE;
        }

        int takePiece(int zone, int size) {
            int place = leastFree(zone, size);
            if (place < 0) {
                int k = room.freeRun(1);
                if (k < 0) {
                    return NONE;
                }
                room.owner[k] = zone;
                place = k * PAGE;
                room.mark(place, PAGE);
            }
            room.mark(place, partOff(place, room.freeAt(place, zone), size));
            return place;
        }

        boolean fits(int s, int size) {
            return size <= room.blockLength[s];
        }

        void reshape(int s, int size) {
            room.blockLength[s] = partOff(room.blockPlace[s], room.blockLength[s], size);
        }

        void tidy(int zone) {
            for (int k = 0; k < room.pages; k++) {
                if (room.owner[k] == zone) {
                    joinPairs(k * PAGE);
                    if (room.pieceAt(k * PAGE) == PAGE) {
                        room.mark(k * PAGE, 0);
                        room.owner[k] = NO_ONE;
                    }
                }
            }
        }

        private int leastFree(int zone, int size) {
            int least = NONE;
            int leastLength = PAGE + 1;
            for (int p = 0; p < room.places(); p = Math.max(p + 1, room.endOf(p))) {
                int free = room.freeAt(p, zone);
                if (free > 0 && free >= size && free < leastLength) {
                    least = p;
                    leastLength = free;
                }
            }
            return least;
        }

        /** Frees upper halves as long as the lower one is enough; answers the length that is left. */
        private int partOff(int place, int length, int size) {
            int left = length;
            for (int half = length / 2; half >= 1 && half >= size; half /= 2) {
                room.mark(place + half, half);
                left = half;
            }
            return left;
        }

        /** Shorter pairs go first, as two joined ones may be half of a longer pair. */
        private void joinPairs(int start) {
            for (int half = 1; half < PAGE; half *= 2) {
                for (int p = start; p < start + PAGE; p += 2 * half) {
                    if (room.pieceAt(p) == half && room.pieceAt(p + half) == half) {
                        room.mark(p, 2 * half);
                        room.mark(p + half, 0);
                    }
                }
            }
        }
    }

    /** SPAN, BEST, FIRST and GUARD: they differ in the free piece that they choose, and in what is aside. */
    private static final class RowKeeper extends Keeper {
        RowKeeper(Room room) {
            super(room);
        }

        int mostOf(int zone) {
            return MOST_ROW_SIZE;
        }

        int greatest(int zone) {
            int longest = PAGE * room.longestFreeRun();
            for (int p = 0; p < room.places(); p = Math.max(p + 1, room.endOf(p))) {
                longest = Math.max(longest, room.freeAt(p, zone));
            }
            return Math.max(NONE, Math.min(longest - aside(zone), MOST_ROW_SIZE));
        }

        int takePiece(int zone, int size) {
            int length = size + aside(zone);
            int place = choose(zone, length);
            if (place < 0) {
                if (!bringPages(zone, (length + PAGE - 1) / PAGE)) {
                    return NONE;
                }
                place = choose(zone, length);
            }
            int free = room.freeAt(place, zone);
            if (free > length) {
                room.mark(place + length, free - length);
                room.mark(place, length);
            }
            return place;
        }

        boolean fits(int s, int size) {
            int more = size - room.blockSize[s];
            return freeBehind(s) >= more;
        }

        void reshape(int s, int size) {
            int end = room.blockPlace[s] + room.blockLength[s];
            int behind = freeBehind(s);
            if (behind > 0) {
                room.mark(end, 0);
            }
            room.blockLength[s] = size + aside(room.blockZone[s]);
            int newEnd = room.blockPlace[s] + room.blockLength[s];
            if (newEnd < end + behind) {
                room.mark(newEnd, end + behind - newEnd);
            }
        }

        void tidy(int zone) {
            joinTouching(zone);
            for (int p = 0; p < room.places(); ) {
                int end = Math.max(p + 1, room.endOf(p));
                if (room.freeAt(p, zone) > 0) {
                    letGoPages(p, end);
                }
                p = end;
            }
        }

        /** How many numbers of a block's piece are not its own: head and guard words. */
        private int aside(int zone) {
            return room.kindOf(zone) == KIND_GUARD ? 3 : 1;
        }

        private int choose(int zone, int length) {
            int kind = room.kindOf(zone);
            int chosen = NONE;
            int chosenLength = 0;
            for (int p = 0; p < room.places(); p = Math.max(p + 1, room.endOf(p))) {
                int free = room.freeAt(p, zone);
                if (free >= length && (chosen < 0 || isBetter(kind, free, chosenLength))) {
                    chosen = p;
                    chosenLength = free;
                }
            }
            return chosen;
        }

        /** Places are gone through from the lowest on, so a piece that is only as good is not taken. */
        private boolean isBetter(int kind, int length, int than) {
            if (kind == KIND_SPAN) {
                return length > than;
            }
            return kind == KIND_BEST && length < than;
        }

        private boolean bringPages(int zone, int n) {
            int first = room.freeRun(n);
            if (first < 0) {
                return false;
            }
            for (int k = first; k < first + n; k++) {
                room.owner[k] = zone;
            }
            room.mark(first * PAGE, n * PAGE);
            joinTouching(zone);
            return true;
        }

        private int freeBehind(int s) {
            return room.freeAt(room.blockPlace[s] + room.blockLength[s], room.blockZone[s]);
        }

        private void joinTouching(int zone) {
            int joined = NONE;
            for (int p = 0; p < room.places(); ) {
                int end = Math.max(p + 1, room.endOf(p));
                if (room.freeAt(p, zone) == 0) {
                    joined = NONE;
                } else if (joined < 0) {
                    joined = p;
                } else {
                    room.mark(p, 0);
                    room.mark(joined, end - joined);
                }
                p = end;
            }
        }

        /** Of a free piece its whole pages go; what is left on either side stays free. */
        private void letGoPages(int start, int end) {
            int first = (start + PAGE - 1) / PAGE;
            int beyond = end / PAGE;
            if (first >= beyond) {
                return;
            }
            for (int k = first; k < beyond && k < room.pages; k++) {
                room.owner[k] = NO_ONE;
            }
            room.mark(start, first * PAGE - start);
            if (beyond * PAGE < end) {
                room.mark(beyond * PAGE, end - beyond * PAGE);
            }
        }
    }

    /** The map, made anew as it is asked; what begins at one place has up to four entries. */
    private static final class Chart {
        final Room room;
        final int[] partKind = new int[4];
        final int[] partLength = new int[4];
        int parts;
        int start;
        int place;
        int length;
        int kind;

        Chart(Room room) {
            this.room = room;
            parts = 0;
            start = 0;
            place = 0;
            length = 0;
            kind = 0;
        }

        int entries() {
            int n = 0;
            for (int p = 0; p < room.places(); p = Math.max(p + 1, room.endOf(p))) {
                lookAt(p);
                n += parts;
            }
            return n;
        }

        /** Goes to entry i; answers whether there is one. */
        boolean seek(int i) {
            if (i < 0) {
                return false;
            }
            int ahead = 0;
            for (int p = 0; p < room.places(); p = Math.max(p + 1, room.endOf(p))) {
                lookAt(p);
                if (i < ahead + parts) {
                    goToPart(i - ahead);
                    return true;
                }
                ahead += parts;
            }
            return false;
        }

        int kindAt(int wanted) {
            for (int p = 0; p < room.places(); p = Math.max(p + 1, room.endOf(p))) {
                if (wanted < room.endOf(p)) {
                    lookAt(p);
                    goToPart(partWith(wanted - p));
                    return kind;
                }
            }
            return ENTRY_FREE_PAGE;
        }

        int handle() {
            int s = room.blockAt(start);
            boolean ofBlock = kind == ENTRY_BLOCK || kind == ENTRY_GUARD;
            return ofBlock && s >= 0 ? room.handleOf(s) : NONE;
        }

        int zoneNumber() {
            return Math.max(NONE, room.ownerAt(start));
        }

        private void goToPart(int part) {
            place = start;
            for (int i = 0; i < part && i < parts; i++) {
                place += partLength[i];
            }
            if (part >= 0 && part < parts) {
                length = partLength[part];
                kind = partKind[part];
            }
        }

        private int partWith(int offset) {
            int end = 0;
            for (int i = 0; i < parts; i++) {
                end += partLength[i];
                if (offset < end) {
                    return i;
                }
            }
            return parts - 1;
        }

        private void addPart(int partsKind, int partsLength) {
            if (partsLength > 0 && parts < partKind.length) {
                partKind[parts] = partsKind;
                partLength[parts] = partsLength;
                parts++;
            }
        }

        private void lookAt(int p) {
            start = p;
            parts = 0;
            int all = room.endOf(p) - p;
            int owner = room.ownerAt(p);
            if (owner < 0) {
                addPart(owner == NO_ONE ? ENTRY_FREE_PAGE : ENTRY_MISSING_PAGE, all);
            } else if (room.pieceAt(p) == 0) {
                addPart(p % PAGE == 0 ? ENTRY_HEAD : ENTRY_WASTE, all);
            } else if (room.isRowZone(owner)) {
                addRowParts(room.blockAt(p), all);
            } else {
                addPart(room.blockAt(p) >= 0 ? ENTRY_BLOCK : ENTRY_FREE, all);
            }
        }

        private void addRowParts(int s, int all) {
            addPart(ENTRY_HEAD, 1);
            if (s < 0) {
                addPart(ENTRY_FREE, all - 1);
            } else if (room.isGuarded(s)) {
                addPart(ENTRY_GUARD, 1);
                addPart(ENTRY_BLOCK, room.blockSize[s]);
                addPart(ENTRY_GUARD, 1);
            } else {
                addPart(ENTRY_BLOCK, room.blockSize[s]);
            }
        }
    }
}
