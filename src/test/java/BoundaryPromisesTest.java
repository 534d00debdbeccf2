/**
 * Promises 1 to 25: a test of its own for each sentence that names a boundary (too small, too large,
 * empty, full, a wrap-around, a finding and the one that is asked ahead of it).
 */
public final class BoundaryPromisesTest {
    private static final int LOW = Due.LOW;
    private static final int HIGH = Due.HIGH;
    private static final Due DUE = new Due();

    private static void sentence(String words) {
        DUE.part(words);
    }

    private static void due(String call, long got, long want) {
        DUE.due(call, got, want);
    }

    private static RoomWarden with(int pages, int kind, long by) {
        return Due.with(pages, kind, by);
    }

    // Promises 1 and 2

    private static void newObject() {
        sentence("Promise 1: No pages, no zones, no blocks, nothing kept");
        RoomWarden x = new RoomWarden();
        for (int what = 0; what < 5; what++) {
            due("count(" + what + ")", x.count(what), 0);
        }
        due("peek(0)", x.peek(0), -1);
        due("page(0, true)", x.page(0, true), -1);
        due("map(0, 0)", x.map(0, 0), -1);
        due("told(0, 0)", x.told(0, 0), -1);
        due("largest(0)", x.largest(0), -1);
        due("want(0, 0)", x.want(0, 0), -1);
        due("block(0, 0)", x.block(0, 0), -4);
        due("back()", x.back(), -4);
        due("value()", x.value(), 0);
        due("found(-1)", x.found(-1), 6);
    }

    private static void newObjectWithoutOpen() {
        sentence("Promise 1: zones, places that hold, and what is kept need no pages");
        RoomWarden x = new RoomWarden();
        for (int kind = 0; kind < 6; kind++) {
            due("zone(" + kind + ", 1)", x.zone(kind, 1), kind);
            due("want(" + kind + ", 0)", x.want(kind, 0), -6);
            due("largest(" + kind + ")", x.largest(kind), -6);
            due("told(" + kind + ", 1)", x.told(kind, 1), 0);
        }
        due("hold(0, 99)", x.hold(0, 99), 0);
        due("throwIt(0)", x.throwIt(0), 99);
        due("save()", x.save(), 1);
        due("open(0)", x.open(0), 0);
        due("back()", x.back(), 1);
        due("count(2)", x.count(2), 6);
    }

    private static void openFindings() {
        sentence("Promise 2: SIZE: n is below 0");
        RoomWarden x = with(2, 4, 0);
        due("open(-1)", x.open(-1), -3);
        due("open(LOW)", x.open(LOW), -3);
        due("count(2)", x.count(2), 1);
        sentence("Promise 2: BEYOND: n is above 40");
        due("open(41)", x.open(41), -1);
        due("open(HIGH)", x.open(HIGH), -1);
        due("count(0)", x.count(0), 2);
        due("count(2)", x.count(2), 1);
        sentence("Promise 2: with n pages, all FREE: n");
        int[] pages = {40, 0, 1, 39};
        for (int i = 0; i < pages.length; i++) {
            due("open(" + pages[i] + ")", x.open(pages[i]), pages[i]);
            due("count(0)", x.count(0), pages[i]);
            due("count(1)", x.count(1), pages[i]);
            due("count(4)", x.count(4), pages[i]);
            due("peek of the last", x.peek(64 * pages[i] - 1), pages[i] == 0 ? -1 : 0);
            due("peek beyond", x.peek(64 * pages[i]), -1);
        }
    }

    private static void openBeginsAnew() {
        sentence("Promise 2: All begins anew (THE VALUE is 0, what is held goes, too)");
        RoomWarden x = Due.opened(2);
        for (int z = 0; z < 8; z++) {
            x.zone(5, 7);
        }
        x.want(0, 5);
        x.want(0, 5);
        x.fill(0, 9);
        x.give(1);
        x.page(1, false);
        x.read(0, 4);
        for (int k = 0; k < 4; k++) {
            x.hold(k, 99 - k);
        }
        due("open(2)", x.open(2), 2);
        due("value()", x.value(), 0);
        for (int k = 0; k < 4; k++) {
            due("throwIt(" + k + ")", x.throwIt(k), -4);
            due("hold(" + k + ", 0)", x.hold(k, 0), 0);
        }
        due("count(2)", x.count(2), 0);
        due("count(3)", x.count(3), 0);
        DUE.map(x, "0:64 0:64");
        DUE.at(x, 2, 0, 0);
        due("block(1, 0), no longer OLD", x.block(1, 0), -4);
        for (int z = 0; z < 8; z++) {
            due("zone", x.zone(4, 0), z);
        }
        due("want(0, 1), with a first handle", x.want(0, 1), 0);
        DUE.number(x, 0, 0, 0);
    }

    private static void openKeeps() {
        sentence("Promise 2: but not what is kept, and found()");
        RoomWarden x = with(1, 4, 0);
        x.want(0, 3);
        x.fill(0, 6);
        x.hold(3, 1);
        x.save();
        x.peek(64);
        due("open(0)", x.open(0), 0);
        due("found(-1)", x.found(-1), 1);
        due("back()", x.back(), 1);
        DUE.map(x, "2:1 3:3 2:1 4:59");
        DUE.number(x, 0, 2, 6);
        due("throwIt(3)", x.throwIt(3), 1);
    }

    // Promises 3 and 4

    private static void pageFindings() {
        sentence("Promise 3: BEYOND: there is no such page");
        RoomWarden x = with(2, 4, 0);
        int[] wrong = {-1, LOW, 2, 40, HIGH};
        for (int i = 0; i < wrong.length; i++) {
            due("page(" + wrong[i] + ", true)", x.page(wrong[i], true), -1);
            due("page(" + wrong[i] + ", false)", x.page(wrong[i], false), -1);
        }
        sentence("Promise 3: BUSY: it is a zone's");
        x.want(0, 1);
        due("page(0, true)", x.page(0, true), -7);
        due("page(0, false)", x.page(0, false), -7);
        x.give(0);
        due("page(0, false) as the zone gave it back", x.page(0, false), 1);
    }

    private static void pageIsNew() {
        sentence("Promise 3: 1 if that is new, else 0");
        RoomWarden x = Due.opened(2);
        due("page(1, true)", x.page(1, true), 0);
        due("page(1, false)", x.page(1, false), 1);
        due("page(1, false)", x.page(1, false), 0);
        due("page(1, true)", x.page(1, true), 1);
        due("page(1, true)", x.page(1, true), 0);
        due("page(0, false)", x.page(0, false), 1);
        DUE.map(x, "1:64 0:64");
        x.page(1, false);
        due("count(1)", x.count(1), 0);
        due("count(0)", x.count(0), 2);
    }

    private static void zoneFindings() {
        RoomWarden x = Due.opened(1);
        for (int full = 0; full < 2; full++) {
            sentence("Promise 4: KIND: another kind");
            int[] kinds = {-1, 6, LOW, HIGH};
            for (int i = 0; i < kinds.length; i++) {
                due("zone(" + kinds[i] + ", 0)", x.zone(kinds[i], 0), -9);
            }
            sentence("Promise 4: BEYOND: a SLAB's class isn't 1 .. 32");
            long[] classes = {0, 33, -1, Long.MIN_VALUE, Long.MAX_VALUE, (1L << 32) + 1, -(1L << 32) + 32};
            for (int i = 0; i < classes.length; i++) {
                due("zone(0, " + classes[i] + ")", x.zone(0, classes[i]), -1);
            }
            due("count(2)", x.count(2), 8 * full);
            for (int z = 8 * full; z < 8; z++) {
                due("zone", x.zone(0, z % 2 == 0 ? 1 : 32), z);
            }
        }
        sentence("Promise 4: FULL: there are 8");
        for (int kind = 0; kind < 6; kind++) {
            due("zone(" + kind + ", 1)", x.zone(kind, 1), -6);
        }
        due("count(2)", x.count(2), 8);
    }

    private static void zoneBy() {
        sentence("Promise 4: by is the class of a SLAB (not looked at of the others), the word of a GUARD");
        long[] by = {0, -1, 33, Long.MIN_VALUE, Long.MAX_VALUE};
        for (int i = 0; i < by.length; i++) {
            for (int kind = 1; kind < 6; kind++) {
                RoomWarden x = Due.opened(1);
                due("zone(" + kind + ", " + by[i] + ")", x.zone(kind, by[i]), 0);
                due("want(0, 10)", x.want(0, 10), 0);
                DUE.number(x, 0, 0, 0);
                due("block(0, 3)", x.block(0, 3), 0);
            }
        }
    }

    // Promise 5

    private static void wantFindings() {
        RoomWarden x = with(1, 0, 7);
        x.zone(1, 0);
        x.zone(2, 0);
        x.zone(3, 0);
        x.zone(4, 0);
        x.zone(5, 0);
        sentence("Promise 5: BEYOND: there is no such zone");
        int[] zones = {-1, 6, 7, 8, LOW, HIGH};
        for (int i = 0; i < zones.length; i++) {
            due("want(" + zones[i] + ", 1)", x.want(zones[i], 1), -1);
            due("want(" + zones[i] + ", -1)", x.want(zones[i], -1), -1);
        }
        sentence("Promise 5: SIZE: size is below 0");
        for (int z = 0; z < 6; z++) {
            due("want(" + z + ", -1)", x.want(z, -1), -3);
            due("want(" + z + ", LOW)", x.want(z, LOW), -3);
        }
        sentence("Promise 5: BEYOND: it is more than its kind has");
        int[] most = {7, 64, 2000, 2000, 2000, 2000};
        for (int z = 0; z < 6; z++) {
            due("want(" + z + ", one more)", x.want(z, most[z] + 1), -1);
            due("want(" + z + ", HIGH)", x.want(z, HIGH), -1);
        }
        sentence("Promise 5: FULL");
        for (int z = 2; z < 6; z++) {
            due("want(" + z + ", 2000)", x.want(z, 2000), -6);
        }
        due("want(2, 63)", x.want(2, 63), 0);
        for (int z = 0; z < 6; z++) {
            due("want(" + z + ", 0)", x.want(z, 0), -6);
        }
        due("count(3)", x.count(3), 1);
    }

    private static void wantOf100() {
        sentence("Promise 5: SIZE and BEYOND are asked ahead of FULL");
        RoomWarden x = with(40, 1, 0);
        x.zone(4, 0);
        for (int s = 0; s < 100; s++) {
            x.want(0, 0);
        }
        due("want(2, 0)", x.want(2, 0), -1);
        due("want(1, -1)", x.want(1, -1), -3);
        due("want(1, 2001)", x.want(1, 2001), -1);
        due("want(1, 2000)", x.want(1, 2000), -6);
        due("want(1, 0)", x.want(1, 0), -6);
        due("told(1, 1), no page came", x.told(1, 1), 0);
    }

    // Promises 6, 7 and 8

    private static void giveFindings() {
        for (int kind = 0; kind < 6; kind++) {
            sentence("Promise 6: its size. NOTHING. OLD, kind " + kind);
            RoomWarden x = with(1, kind, 9);
            due("give(0)", x.give(0), -4);
            due("give(-1)", x.give(-1), -4);
            due("give(LOW)", x.give(LOW), -4);
            due("give(HIGH)", x.give(HIGH), -4);
            x.want(0, 0);
            x.want(0, 9);
            due("give(2)", x.give(2), -4);
            due("give(100)", x.give(100), -4);
            due("give(0)", x.give(0), 0);
            due("give(0)", x.give(0), -5);
            due("give(1)", x.give(1), 9);
            due("give(1)", x.give(1), -5);
            due("give(101)", x.give(101), -4);
            due("count(1)", x.count(1), 1);
        }
    }

    /** A block of size 2 whose guard words are as told (1 the first is spoiled, 2 the last, 3 both). */
    private static RoomWarden spoiled(int words) {
        RoomWarden x = with(2, 5, 8);
        x.want(0, 2);
        x.spoil(0, false, (words & 1) != 0 ? 9 : 8);
        x.spoil(0, true, (words & 2) != 0 ? 9 : 8);
        return x;
    }

    private static void guardFindings() {
        for (int words = 0; words < 4; words++) {
            sentence("Promises 6, 7, 8: GUARD: a guard word of it isn't the zone's word, words " + words);
            boolean hale = words == 0;
            due("block(0, 3)", spoiled(words).block(0, 3), words);
            due("give(0)", spoiled(words).give(0), hale ? 2 : -8);
            due("grow(0, 3)", spoiled(words).grow(0, 3), hale ? 1 : -8);
            due("grow(0, 2)", spoiled(words).grow(0, 2), hale ? 1 : -8);
            due("grow(0, 1)", spoiled(words).grow(0, 1), hale ? -1 : -8);
            due("grow(0, 2001)", spoiled(words).grow(0, 2001), hale ? -1 : -8);
            due("grow(0, 2000)", spoiled(words).grow(0, 2000), hale ? -6 : -8);
            due("shrink(0, 2)", spoiled(words).shrink(0, 2), hale ? 0 : -8);
            due("shrink(0, 1)", spoiled(words).shrink(0, 1), hale ? 1 : -8);
            due("shrink(0, -1)", spoiled(words).shrink(0, -1), hale ? -3 : -8);
            due("shrink(0, 3)", spoiled(words).shrink(0, 3), hale ? -1 : -8);
            RoomWarden x = spoiled(words);
            due("write is not refused", x.write(0, 1, 5), 0);
            due("read is not refused", x.read(0, 1), 0);
            due("fill is not refused", x.fill(0, 5), 2);
            due("copy is not refused", x.copy(0, 0, 0, 1, 1), 1);
            due("block(0, 3)", x.block(0, 3), words);
        }
    }

    private static void growFindings() {
        int[] most = {9, 64, 2000, 2000, 2000, 2000};
        for (int kind = 0; kind < 6; kind++) {
            RoomWarden x = with(40, kind, 9);
            sentence("Promise 7: NOTHING. OLD, kind " + kind);
            due("grow(0, -1)", x.grow(0, -1), -4);
            x.want(0, 4);
            x.want(0, 4);
            x.give(1);
            due("grow(1, -1)", x.grow(1, -1), -5);
            due("grow(-1, 5)", x.grow(-1, 5), -4);
            due("grow(100, 5)", x.grow(100, 5), -4);
            sentence("Promise 7: BEYOND: size is less than it has, or more than its kind has, kind " + kind);
            due("grow(0, 3)", x.grow(0, 3), -1);
            due("grow(0, -1)", x.grow(0, -1), -1);
            due("grow(0, LOW)", x.grow(0, LOW), -1);
            due("grow(0, one more)", x.grow(0, most[kind] + 1), -1);
            due("grow(0, HIGH)", x.grow(0, HIGH), -1);
            due("grow(0, 4)", x.grow(0, 4), 1);
            due("grow(0, most)", x.grow(0, most[kind]), kind == 0 ? 1 : 2);
            due("block(0, 0)", x.block(0, 0), most[kind]);
            due("grow(0, most)", x.grow(0, most[kind]), 1);
            due("grow(0, one more)", x.grow(0, most[kind] + 1), -1);
        }
    }

    private static void growIsFull() {
        for (int kind = 1; kind < 6; kind++) {
            sentence("Promise 7: FULL, kind " + kind);
            RoomWarden x = with(1, kind, 9);
            x.want(0, 20);
            x.fill(0, 3);
            int most = kind == 1 ? 32 : kind == 5 ? 61 : 63;
            due("grow of one too many", x.grow(0, most + 1), -6);
            due("block(0, 0)", x.block(0, 0), 20);
            due("grow of all there is", x.grow(0, most), 1);
            due("grow of one too many", x.grow(0, most + 1), -6);
            DUE.number(x, 0, 19, 3);
            DUE.number(x, 0, 20, 0);
        }
    }

    private static void shrinkFindings() {
        for (int kind = 0; kind < 6; kind++) {
            RoomWarden x = with(1, kind, 9);
            sentence("Promise 8: NOTHING. OLD, kind " + kind);
            due("shrink(0, -1)", x.shrink(0, -1), -4);
            x.want(0, 9);
            x.want(0, 9);
            x.give(1);
            due("shrink(1, -1)", x.shrink(1, -1), -5);
            due("shrink(-1, -1)", x.shrink(-1, -1), -4);
            due("shrink(100, 0)", x.shrink(100, 0), -4);
            sentence("Promise 8: SIZE: size is below 0, kind " + kind);
            due("shrink(0, -1)", x.shrink(0, -1), -3);
            due("shrink(0, LOW)", x.shrink(0, LOW), -3);
            sentence("Promise 8: BEYOND: it is more than it has, kind " + kind);
            due("shrink(0, 10)", x.shrink(0, 10), -1);
            due("shrink(0, HIGH)", x.shrink(0, HIGH), -1);
            due("block(0, 0)", x.block(0, 0), 9);
            sentence("Promise 8: by how many numbers, kind " + kind);
            due("shrink(0, 9)", x.shrink(0, 9), 0);
            due("shrink(0, 8)", x.shrink(0, 8), 1);
            due("shrink(0, 9)", x.shrink(0, 9), -1);
            due("shrink(0, 0)", x.shrink(0, 0), 8);
            due("shrink(0, 0)", x.shrink(0, 0), 0);
            due("shrink(0, 1)", x.shrink(0, 1), -1);
            due("give(0)", x.give(0), 0);
        }
    }

    // Promises 9, 10 and 11

    private static void writeFindings() {
        for (int kind = 0; kind < 6; kind++) {
            RoomWarden x = with(1, kind, 20);
            sentence("Promise 9: NOTHING. OLD, kind " + kind);
            due("write(0, -1, 5)", x.write(0, -1, 5), -4);
            x.want(0, 9);
            x.want(0, 0);
            x.want(0, 1);
            x.give(2);
            due("write(2, -1, 5)", x.write(2, -1, 5), -5);
            due("write(-1, 0, 5)", x.write(-1, 0, 5), -4);
            due("write(102, 0, 5)", x.write(102, 0, 5), -4);
            sentence("Promise 9: BEYOND, kind " + kind);
            int[] beyond = {-1, 9, 10, 19, 64, LOW, HIGH};
            for (int i = 0; i < beyond.length; i++) {
                due("write(0, " + beyond[i] + ", 5)", x.write(0, beyond[i], 5), -1);
            }
            due("write(1, 0, 5), a block of size 0", x.write(1, 0, 5), -1);
            due("write(1, -1, 5)", x.write(1, -1, 5), -1);
            sentence("Promise 9: Number i becomes v: 0, kind " + kind);
            due("write(0, 0, LOWEST)", x.write(0, 0, Long.MIN_VALUE), 0);
            due("write(0, 8, HIGHEST)", x.write(0, 8, Long.MAX_VALUE), 0);
            DUE.number(x, 0, 0, Long.MIN_VALUE);
            DUE.number(x, 0, 1, 0);
            DUE.number(x, 0, 7, 0);
            DUE.number(x, 0, 8, Long.MAX_VALUE);
            int first = x.block(0, 2);
            DUE.at(x, first, 3, Long.MIN_VALUE);
            DUE.at(x, first + 8, 3, Long.MAX_VALUE);
        }
    }

    private static void readFindings() {
        for (int kind = 0; kind < 6; kind++) {
            RoomWarden x = with(1, kind, 20);
            sentence("Promise 10: NOTHING. OLD, kind " + kind);
            due("read(0, -1)", x.read(0, -1), -4);
            x.want(0, 9);
            x.want(0, 0);
            x.want(0, 1);
            x.give(2);
            x.fill(0, 7);
            x.read(0, 0);
            due("read(2, -1)", x.read(2, -1), -5);
            due("read(-1, 0)", x.read(-1, 0), -4);
            due("read(102, 0)", x.read(102, 0), -4);
            sentence("Promise 10: BEYOND, kind " + kind);
            int[] beyond = {-1, 9, 10, 19, 64, LOW, HIGH};
            for (int i = 0; i < beyond.length; i++) {
                due("read(0, " + beyond[i] + ")", x.read(0, beyond[i]), -1);
            }
            due("read(1, 0), a block of size 0", x.read(1, 0), -1);
            due("value() stays", x.value(), 7);
            due("read(0, 8)", x.read(0, 8), 0);
        }
    }

    private static void valueAtFirst() {
        sentence("Promise 11: THE VALUE: 0 at first");
        RoomWarden x = new RoomWarden();
        due("value()", x.value(), 0);
        x.open(1);
        x.zone(5, -3);
        x.want(0, 1);
        x.fill(0, -1);
        due("value()", x.value(), 0);
        x.read(0, 0);
        due("value()", x.value(), -1);
        due("found(-1): a value of -1 is no finding", x.found(-1), 0);
        x.peek(1);
        due("value()", x.value(), -3);
        x.peek(64);
        due("value()", x.value(), -3);
        x.peek(0);
        due("value()", x.value(), 0);
    }

    // Promises 12 and 13

    /** Blocks 0 (size 5: 1, 2, .. 5), 1 (size 3) and 2 (size 0); 3 was given back. */
    private static RoomWarden forCopies() {
        RoomWarden x = with(1, 4, 0);
        x.want(0, 5);
        x.want(0, 3);
        x.want(0, 0);
        x.want(0, 1);
        x.give(3);
        for (int i = 0; i < 5; i++) {
            x.write(0, i, i + 1);
        }
        return x;
    }

    private static void copyHandles() {
        sentence("Promise 12: NOTHING, OLD of from; NOTHING, OLD of to");
        int[] wrong = {-1, LOW, 4, 100, HIGH, 3};
        for (int i = 0; i < wrong.length; i++) {
            int finding = wrong[i] == 3 ? -5 : -4;
            RoomWarden x = forCopies();
            due("copy from " + wrong[i], x.copy(wrong[i], 0, 0, 0, 1), finding);
            due("copy to " + wrong[i], x.copy(0, 0, wrong[i], 0, 1), finding);
            due("copy to " + wrong[i] + " ahead of SIZE", x.copy(0, 9, wrong[i], 9, -1), finding);
        }
        RoomWarden x = forCopies();
        due("OLD of from ahead of NOTHING of to", x.copy(3, 0, -1, 0, 1), -5);
        due("NOTHING of from ahead of OLD of to", x.copy(-1, 0, 3, 0, 1), -4);
    }

    private static void copySizes() {
        sentence("Promise 12: SIZE: n is below 0");
        RoomWarden x = forCopies();
        due("copy of -1", x.copy(0, 0, 1, 0, -1), -3);
        due("copy of LOW", x.copy(0, 0, 1, 0, LOW), -3);
        due("copy of -1 ahead of BEYOND", x.copy(0, -1, 1, 9, -1), -3);
    }

    private static void copyBeyond() {
        sentence("Promise 12: BEYOND: one of them isn't there");
        int[][] wrong = {
            {0, -1, 1, 0, 1}, {0, 0, 1, -1, 1}, {0, 5, 1, 0, 1}, {0, 0, 1, 3, 1}, {0, 3, 1, 0, 3}, {0, 0, 1, 1, 3},
            {0, 0, 1, 0, 4}, {1, 0, 0, 0, 4}, {0, 0, 0, 0, 6}, {2, 0, 0, 0, 1}, {0, 0, 2, 0, 1},
            {0, 0, 1, 0, HIGH}, {0, HIGH, 1, 0, HIGH}, {0, HIGH, 1, 0, 1}, {0, 0, 1, HIGH, 1}, {0, 0, 1, HIGH, HIGH},
            {0, LOW, 1, 0, HIGH}, {0, 0, 1, LOW, HIGH}, {0, LOW, 1, 0, 1}, {0, -1, 1, 0, HIGH}, {0, 1, 0, 0, HIGH}};
        RoomWarden x = forCopies();
        for (int i = 0; i < wrong.length; i++) {
            int[] w = wrong[i];
            due("copy " + i, x.copy(w[0], w[1], w[2], w[3], w[4]), -1);
        }
        for (int i = 0; i < 5; i++) {
            DUE.number(x, 0, i, i + 1);
        }
        for (int i = 0; i < 3; i++) {
            DUE.number(x, 1, i, 0);
        }
    }

    private static void copyOfNone() {
        sentence("Promise 12: with n 0 i and j may be the blocks' sizes, not more");
        RoomWarden x = forCopies();
        due("at both sizes", x.copy(0, 5, 1, 3, 0), 0);
        due("at both beginnings", x.copy(0, 0, 1, 0, 0), 0);
        due("of blocks of size 0", x.copy(2, 0, 2, 0, 0), 0);
        due("i one more", x.copy(0, 6, 1, 3, 0), -1);
        due("j one more", x.copy(0, 5, 1, 4, 0), -1);
        due("i below 0", x.copy(0, -1, 1, 3, 0), -1);
        due("j below 0", x.copy(0, 5, 1, -1, 0), -1);
        due("i of a block of size 0", x.copy(2, 1, 2, 0, 0), -1);
        due("j of a block of size 0", x.copy(2, 0, 2, 1, 0), -1);
        due("i LOW", x.copy(0, LOW, 1, 0, 0), -1);
        due("i HIGH", x.copy(0, HIGH, 1, 0, 0), -1);
        due("j HIGH", x.copy(0, 0, 1, HIGH, 0), -1);
    }

    private static void copyInItself() {
        sentence("Promise 12: or the same, as if taken away first: n");
        for (int i = 0; i <= 5; i++) {
            for (int j = 0; j <= 5; j++) {
                int most = 5 - Math.max(i, j);
                RoomWarden x = forCopies();
                due("copy of all that goes", x.copy(0, i, 0, j, most), most);
                for (int k = 0; k < 5; k++) {
                    DUE.number(x, 0, k, k >= j && k < j + most ? k - j + i + 1 : k + 1);
                }
                due("copy of one more", x.copy(0, i, 0, j, most + 1), -1);
            }
        }
        sentence("Promise 12: come to j, j + 1, .. of another one: n");
        RoomWarden x = forCopies();
        due("all of the target", x.copy(0, 2, 1, 0, 3), 3);
        for (int k = 0; k < 3; k++) {
            DUE.number(x, 1, k, k + 3);
        }
        due("all of the source", x.copy(1, 0, 0, 0, 3), 3);
        DUE.number(x, 0, 2, 5);
        DUE.number(x, 0, 3, 4);
    }

    private static void fillFindings() {
        for (int kind = 0; kind < 6; kind++) {
            sentence("Promise 13: All numbers of a block become v: its size, kind " + kind);
            RoomWarden x = with(1, kind, 9);
            due("fill(0, 1)", x.fill(0, 1), -4);
            x.want(0, 0);
            x.want(0, 3);
            x.want(0, 1);
            due("fill(0, 5), a block of size 0", x.fill(0, 5), 0);
            due("fill(1, LOWEST)", x.fill(1, Long.MIN_VALUE), 3);
            int filled = 0;
            for (int p = 0; p < 64; p++) {
                x.peek(p);
                filled += x.value() == Long.MIN_VALUE ? 1 : 0;
                due("a 5 at " + p, x.value() == 5 ? 1 : 0, 0);
            }
            due("numbers that are LOWEST", filled, 3);
            DUE.number(x, 1, 0, Long.MIN_VALUE);
            DUE.number(x, 1, 2, Long.MIN_VALUE);
            due("block(0, 3)", x.block(0, 3), 0);
            due("block(1, 3)", x.block(1, 3), 0);
            sentence("Promise 13: NOTHING. OLD, kind " + kind);
            x.give(1);
            due("fill(1, 5)", x.fill(1, 5), -5);
            due("fill(-1, 5)", x.fill(-1, 5), -4);
            due("fill(101, 5)", x.fill(101, 5), -4);
        }
    }

    // Promises 14 and 15

    private static void blockFindings() {
        for (int kind = 0; kind < 6; kind++) {
            sentence("Promise 14: NOTHING. OLD. BEYOND: another what, kind " + kind);
            RoomWarden x = with(1, kind, 9);
            int[] wrong = {-1, 4, LOW, HIGH};
            for (int i = 0; i < wrong.length; i++) {
                due("NOTHING, what " + wrong[i], x.block(0, wrong[i]), -4);
            }
            x.want(0, 2);
            for (int i = 0; i < wrong.length; i++) {
                due("BEYOND, what " + wrong[i], x.block(0, wrong[i]), -1);
            }
            x.give(0);
            for (int i = 0; i < wrong.length; i++) {
                due("OLD, what " + wrong[i], x.block(0, wrong[i]), -5);
            }
        }
    }

    private static void blockPlaces() {
        sentence("Promise 14: 2 the place of its number 0 (where it is or would be)");
        int[] empty = {1, 0, 1, 1, 1, 2};
        for (int kind = 0; kind < 6; kind++) {
            RoomWarden x = with(1, kind, 9);
            x.want(0, 0);
            due("kind " + kind + ", of size 0", x.block(0, 2), empty[kind]);
            x.grow(0, 1);
            due("kind " + kind + ", of size 1", x.block(0, 2), empty[kind]);
            x.write(0, 0, 4);
            DUE.at(x, empty[kind], 3, 4);
        }
        RoomWarden x = with(1, 4, 0);
        x.want(0, 62);
        x.want(0, 0);
        due("behind the last place of all", x.block(1, 2), 64);
    }

    private static void blockWords() {
        sentence("Promise 14: 3 its guard words: 1 the first, 2 the last, 3 both, 0 none (or of another kind)");
        RoomWarden x = with(1, 5, 0);
        x.want(0, 0);
        due("block(0, 3)", x.block(0, 3), 0);
        x.spoil(0, false, 1);
        due("block(0, 3)", x.block(0, 3), 1);
        x.spoil(0, true, Long.MIN_VALUE);
        due("block(0, 3)", x.block(0, 3), 3);
        x.spoil(0, false, 0);
        due("block(0, 3)", x.block(0, 3), 2);
        x.spoil(0, true, 0);
        due("block(0, 3)", x.block(0, 3), 0);
        x.spoil(0, true, 1L << 32);
        due("block(0, 3), a word of which only the upper half is other", x.block(0, 3), 2);
        for (int kind = 0; kind < 5; kind++) {
            RoomWarden y = with(1, kind, 9);
            y.want(0, 3);
            y.fill(0, 5);
            due("block(0, 3) of kind " + kind, y.block(0, 3), 0);
        }
    }

    private static void spoilFindings() {
        sentence("Promise 15: NOTHING. OLD. KIND: its zone is no GUARD");
        for (int kind = 0; kind < 6; kind++) {
            RoomWarden x = with(1, kind, 9);
            due("spoil(0, true, 1)", x.spoil(0, true, 1), -4);
            due("spoil(-1, false, 1)", x.spoil(-1, false, 1), -4);
            x.want(0, 2);
            due("spoil(100, true, 1)", x.spoil(100, true, 1), -4);
            due("spoil(0, true, 9)", x.spoil(0, true, 9), kind == 5 ? 0 : -9);
            due("spoil(0, false, 9)", x.spoil(0, false, 9), kind == 5 ? 0 : -9);
            x.give(0);
            due("spoil(0, true, 1)", x.spoil(0, true, 1), -5);
        }
        sentence("Promise 15: A guard word of a block becomes v (the first, or the last one): 0");
        RoomWarden x = with(1, 5, 9);
        x.want(0, 0);
        x.want(0, 1);
        due("spoil(0, true, 1)", x.spoil(0, true, 1), 0);
        due("spoil(1, false, 2)", x.spoil(1, false, 2), 0);
        DUE.at(x, 1, 6, 9);
        DUE.at(x, 2, 6, 1);
        DUE.at(x, 4, 6, 2);
        DUE.at(x, 5, 3, 0);
        DUE.at(x, 6, 6, 9);
    }

    // Promises 16, 17 and 18

    private static void peekFindings() {
        sentence("Promise 16: BEYOND: there is no such place. MISSING: its page is");
        RoomWarden x = Due.opened(3);
        x.page(0, false);
        x.page(2, false);
        int[] places = {0, 63, 64, 127, 128, 191, 192, -1, LOW, HIGH, 2560};
        int[] kinds = {-2, -2, 0, 0, -2, -2, -1, -1, -1, -1, -1};
        for (int i = 0; i < places.length; i++) {
            due("peek(" + places[i] + ")", x.peek(places[i]), kinds[i]);
        }
        due("found(-2)", x.found(-2), 4);
        due("found(-1)", x.found(-1), 5);
        sentence("Promise 16: BEYOND, without pages");
        due("peek(0)", new RoomWarden().peek(0), -1);
        due("peek(0)", Due.opened(0).peek(0), -1);
    }

    private static void peekKinds() {
        sentence("Promise 16: the kind of the map's entry in which it is, at both ends of each");
        RoomWarden x = with(4, 0, 30);
        x.zone(5, 8);
        x.zone(1, 0);
        x.want(0, 30);
        x.want(1, 2);
        x.want(2, 8);
        int[] places = {0, 1, 30, 31, 60, 61, 63, 64, 65, 66, 67, 68, 69, 70, 127, 128, 135, 136, 143, 144, 191, 192, 255};
        int[] kinds = {2, 3, 3, 4, 4, 5, 5, 2, 6, 3, 3, 6, 2, 4, 4, 3, 3, 4, 4, 4, 4, 0, 0};
        for (int i = 0; i < places.length; i++) {
            due("peek(" + places[i] + ")", x.peek(places[i]), kinds[i]);
        }
    }

    private static void largestFindings() {
        sentence("Promise 17: BEYOND: there is no such zone");
        RoomWarden x = with(1, 4, 0);
        int[] wrong = {-1, 1, 8, LOW, HIGH};
        for (int i = 0; i < wrong.length; i++) {
            due("largest(" + wrong[i] + ")", x.largest(wrong[i]), -1);
        }
        for (int kind = 0; kind < 6; kind++) {
            sentence("Promise 17: FULL: there is none, kind " + kind);
            RoomWarden y = with(1, kind, 9);
            y.page(0, false);
            due("largest(0)", y.largest(0), -6);
            due("want(0, 0)", y.want(0, 0), -6);
        }
    }

    /** A room of each kind after some calls: want() of the size is not FULL, of one more it is, or BEYOND. */
    private static void largestIsTheGreatest() {
        int[] most = {9, 64, 2000, 2000, 2000, 2000};
        for (int kind = 0; kind < 6; kind++) {
            for (int pages = 1; pages <= 40; pages += pages < 4 ? 1 : 9) {
                for (int taken = 0; taken < 9; taken++) {
                    sentence("Promise 17: The greatest size with which want() would not be FULL, kind " + kind);
                    int size = greatRoom(kind, pages, taken).largest(0);
                    RoomWarden x = greatRoom(kind, pages, taken);
                    RoomWarden y = greatRoom(kind, pages, taken);
                    due("want of it is not FULL", size < 0 || x.want(0, size) >= 0 ? 1 : 0, 1);
                    due("want of one more", y.want(0, Math.max(0, size + 1)), size == most[kind] ? -1 : -6);
                }
            }
        }
    }

    private static RoomWarden greatRoom(int kind, int pages, int taken) {
        RoomWarden x = with(pages, kind, 9);
        x.zone(2, 0);
        for (int i = 0; i < taken; i++) {
            int h = x.want(i % 3 == 2 ? 1 : 0, kind == 0 ? 9 : 7 * i);
            if (i % 4 == 1) {
                x.give(h);
            }
        }
        return x;
    }

    private static void largestOfEdges() {
        sentence("Promise 17: of what is free at the edges of pieces and pages");
        for (int kind = 2; kind < 6; kind++) {
            int aside = kind == 5 ? 3 : 1;
            RoomWarden x = with(40, kind, 0);
            due("40 pages", x.largest(0), 2000);
            x.page(32, false);
            due("32 pages", x.largest(0), 2000);
            x.page(0, false);
            due("31 pages", x.largest(0), 1984 - aside);
            RoomWarden y = with(1, kind, 0);
            y.want(0, 61 - aside);
            due("3 numbers", y.largest(0), 3 - aside);
            y.grow(0, 62 - aside);
            due("2 numbers", y.largest(0), kind == 5 ? -6 : 1);
            y.grow(0, 63 - aside);
            due("a head alone", y.largest(0), kind == 5 ? -6 : 0);
            y.grow(0, 64 - aside);
            due("nothing", y.largest(0), -6);
        }
        RoomWarden b = with(1, 1, 0);
        int[] sizes = {32, 16, 8, 4, 2, 1};
        for (int i = 0; i < sizes.length; i++) {
            b.want(0, sizes[i]);
            due("largest(0) behind " + sizes[i], b.largest(0), sizes[i]);
        }
        b.want(0, 0);
        due("largest(0) of a full page", b.largest(0), -6);
        sentence("Promise 17: (were there a handle)");
        RoomWarden x = with(3, 1, 0);
        for (int s = 0; s < 100; s++) {
            x.want(0, 1);
        }
        due("largest(0)", x.largest(0), 64);
        due("want(0, 64)", x.want(0, 64), -6);
        x.give(0);
        due("want(0, 64)", x.want(0, 64), 100);
    }

    private static void toldFindings() {
        sentence("Promise 18: BEYOND: there is no such zone, or another what");
        RoomWarden x = with(2, 4, 0);
        int[] zones = {-1, 1, 8, LOW, HIGH};
        for (int i = 0; i < zones.length; i++) {
            due("told(" + zones[i] + ", 0)", x.told(zones[i], 0), -1);
        }
        int[] whats = {-1, 4, LOW, HIGH};
        for (int i = 0; i < whats.length; i++) {
            due("told(0, " + whats[i] + ")", x.told(0, whats[i]), -1);
        }
        due("told(9, 9) is one finding", x.told(9, 9), -1);
        due("found(-1)", x.found(-1), 10);
        for (int kind = 0; kind < 6; kind++) {
            sentence("Promise 18: of a zone that has nothing, kind " + kind);
            RoomWarden y = with(2, kind, 9);
            due("told(0, 0)", y.told(0, 0), kind);
            for (int what = 1; what < 4; what++) {
                due("told(0, " + what + ")", y.told(0, what), 0);
            }
        }
        sentence("Promise 18: 2 its blocks");
        RoomWarden z = with(2, 1, 0);
        z.zone(4, 0);
        for (int s = 0; s < 100; s++) {
            z.want(s % 25 == 0 ? 0 : s % 2, 0);
        }
        due("told(0, 2)", z.told(0, 2), 52);
        due("told(1, 2)", z.told(1, 2), 48);
        sentence("Promise 18: 3 how many free slots or pieces it has (pieces of a head alone, too)");
        x.want(0, 62);
        due("told(0, 3)", x.told(0, 3), 1);
        x.grow(0, 63);
        due("told(0, 3)", x.told(0, 3), 0);
        RoomWarden s = with(1, 0, 1);
        s.want(0, 1);
        due("told(0, 3) of a SLAB", s.told(0, 3), 62);
        RoomWarden b = with(1, 1, 0);
        b.want(0, 1);
        due("told(0, 3) of a BUDDY", b.told(0, 3), 6);
    }

    // Promises 19 and 20

    private static void mapFindings() {
        sentence("Promise 19: BEYOND: there is no such entry, or another what");
        RoomWarden x = with(2, 4, 0);
        x.want(0, 1);
        int n = x.count(4);
        due("count(4)", n, 5);
        for (int what = 0; what < 5; what++) {
            due("map(n, " + what + ")", x.map(n, what), -1);
            due("map(-1, " + what + ")", x.map(-1, what), -1);
            due("map(LOW, " + what + ")", x.map(LOW, what), -1);
            due("map(HIGH, " + what + ")", x.map(HIGH, what), -1);
            due("an empty room", Due.opened(0).map(0, what), -1);
        }
        due("found(-1)", x.found(-1), 20);
        int[] whats = {-1, 5, LOW, HIGH};
        for (int i = 0; i < whats.length; i++) {
            due("map(0, " + whats[i] + ")", x.map(0, whats[i]), -1);
        }
        due("map(n, 5) is one finding", x.map(n, 5), -1);
        due("found(-1)", x.found(-1), 25);
        due("map(n - 1, 0)", x.map(n - 1, 0), 64);
        due("map(n - 1, 2)", x.map(n - 1, 2), 0);
    }

    private static void mapOfNoBlock() {
        sentence("Promise 19: 3 (of 3 and 6; else -1), 4 (of 2 to 6; else -1). (-1 is no finding here.)");
        RoomWarden x = with(5, 0, 32);
        x.zone(5, 0);
        x.page(3, false);
        x.want(0, 0);
        x.want(1, 0);
        x.want(1, 61);
        x.give(1);
        int[] kinds = {2, 3, 5, 2, 4, 2, 6, 3, 6, 2, 4, 1, 0};
        int[] handles = {-1, 0, -1, -1, -1, -1, 2, 2, 2, -1, -1, -1, -1};
        int[] zones = {0, 0, 0, 1, 1, 1, 1, 1, 1, 1, 1, -1, -1};
        due("count(4)", x.count(4), kinds.length);
        for (int i = 0; i < kinds.length; i++) {
            due("map(" + i + ", 2)", x.map(i, 2), kinds[i]);
            due("map(" + i + ", 3)", x.map(i, 3), handles[i]);
            due("map(" + i + ", 4)", x.map(i, 4), zones[i]);
        }
        due("found(-1)", x.found(-1), 0);
    }

    private static void countFindings() {
        sentence("Promise 20: BEYOND: another what");
        RoomWarden x = with(40, 4, 0);
        int[] whats = {-1, 5, LOW, HIGH};
        for (int i = 0; i < whats.length; i++) {
            due("count(" + whats[i] + ")", x.count(whats[i]), -1);
        }
        sentence("Promise 20: 0 pages, 1 FREE ones, 2 zones, 3 blocks, 4 entries of the map, at their most");
        x.zone(0, 1);
        for (int z = 2; z < 8; z++) {
            x.zone(1, 0);
        }
        for (int s = 0; s < 100; s++) {
            x.want(s < 60 ? 1 : 2, 1);
        }
        x.page(39, false);
        int[] most = {40, 37, 8, 100, 64 + 40 + 2 + 37 + 1};
        for (int what = 0; what < 5; what++) {
            due("count(" + what + ")", x.count(what), most[what]);
        }
    }

    // Promises 21 to 25

    private static void saveInPlace() {
        sentence("Promise 21: All that there is is kept, in place of what was: 1");
        RoomWarden x = new RoomWarden();
        due("save() of nothing", x.save(), 1);
        x.open(1);
        due("back() to nothing", x.back(), 1);
        due("count(0)", x.count(0), 0);
        x.open(1);
        x.zone(4, 0);
        x.want(0, 2);
        due("save()", x.save(), 1);
        x.open(3);
        due("save() again", x.save(), 1);
        x.open(5);
        due("back() to the later one", x.back(), 1);
        due("count(0)", x.count(0), 3);
        due("count(2)", x.count(2), 0);
        due("block(0, 0)", x.block(0, 0), -4);
    }

    private static void saveButTheValue() {
        sentence("Promise 21: (what is held, too; but THE VALUE, and found())");
        RoomWarden x = with(1, 4, 0);
        x.want(0, 2);
        x.write(0, 0, 11);
        x.write(0, 1, 12);
        x.read(0, 0);
        x.hold(0, 1);
        x.hold(3, 99);
        x.peek(-1);
        x.save();
        x.read(0, 1);
        x.peek(-1);
        x.peek(-1);
        x.hold(0, 2);
        x.hold(3, 0);
        due("back()", x.back(), 1);
        due("value()", x.value(), 12);
        due("found(-1)", x.found(-1), 3);
        due("throwIt(0)", x.throwIt(0), 1);
        due("throwIt(3)", x.throwIt(3), 99);
        due("throwIt(1)", x.throwIt(1), -4);
    }

    private static void backFindings() {
        sentence("Promise 22: NOTHING: nothing is kept");
        RoomWarden x = with(2, 4, 0);
        x.want(0, 2);
        due("back()", x.back(), -4);
        due("count(3)", x.count(3), 1);
        x.open(1);
        due("back() as all begins anew", x.back(), -4);
        due("found(-4)", x.found(-4), 2);
    }

    private static void backStays() {
        for (int kind = 0; kind < 6; kind++) {
            sentence("Promise 22: All is as it was kept (which stays): 1, kind " + kind);
            RoomWarden x = with(3, kind, 9);
            x.want(0, 9);
            x.want(0, 3);
            x.fill(0, 5);
            x.give(1);
            x.page(2, false);
            int entries = x.count(4);
            x.save();
            for (int again = 0; again < 3; again++) {
                x.page(2, true);
                due("want(0, 4)", x.want(0, 4), 101);
                x.fill(0, 6);
                x.give(0);
                x.zone(1, 0);
                x.want(1, 1);
                due("back()", x.back(), 1);
                due("count(1)", x.count(1), 1);
                due("count(2)", x.count(2), 1);
                due("count(3)", x.count(3), 1);
                due("count(4)", x.count(4), entries);
                due("block(101, 0)", x.block(101, 0), -4);
                due("block(1, 0)", x.block(1, 0), -5);
                due("block(0, 0)", x.block(0, 0), 9);
                DUE.number(x, 0, 8, 5);
            }
        }
    }

    private static void backToOtherZones() {
        for (int kind = 0; kind < 6; kind++) {
            for (int other = 0; other < 6; other++) {
                sentence("Promise 22: All is as it was kept, kind " + kind + " in place of " + other);
                RoomWarden x = with(2, kind, 9);
                x.want(0, 9);
                x.want(0, 8);
                x.fill(1, 5);
                int place = x.block(1, 2);
                x.save();
                x.open(1);
                x.zone(other, 7);
                x.want(0, 6);
                due("back()", x.back(), 1);
                due("told(0, 0)", x.told(0, 0), kind);
                due("told(0, 2)", x.told(0, 2), 2);
                due("block(1, 2)", x.block(1, 2), place);
                due("block(1, 3)", x.block(1, 3), 0);
                DUE.number(x, 1, 7, 5);
                due("want(0, 9)", x.want(0, 9), 2);
                due("give(1)", x.give(1), 8);
                due("give(0)", x.give(0), 9);
                due("give(2)", x.give(2), 9);
                due("count(1)", x.count(1), 2);
            }
        }
    }

    private static void holdFindings() {
        sentence("Promise 23: BEYOND: k, then code");
        RoomWarden x = new RoomWarden();
        int[] ks = {-1, 4, LOW, HIGH};
        int[] codes = {-1, 100, LOW, HIGH};
        for (int i = 0; i < 4; i++) {
            due("hold(" + ks[i] + ", 1)", x.hold(ks[i], 1), -1);
            due("hold(0, " + codes[i] + ")", x.hold(0, codes[i]), -1);
            due("hold of both", x.hold(ks[i], codes[i]), -1);
        }
        due("found(-1)", x.found(-1), 12);
        sentence("Promise 23: a code 1 .. 99 (0: holds none): the code that it had");
        for (int k = 0; k < 4; k++) {
            due("hold(" + k + ", 0) of none", x.hold(k, 0), 0);
            due("hold(" + k + ", 1)", x.hold(k, 1), 0);
            due("hold(" + k + ", 99)", x.hold(k, 99), 1);
            due("hold(" + k + ", 100)", x.hold(k, 100), -1);
            due("hold(" + k + ", 99)", x.hold(k, 99), 99);
            due("hold(" + k + ", 0)", x.hold(k, 0), 99);
            due("hold(" + k + ", 50 + k)", x.hold(k, 50 + k), 0);
        }
        for (int k = 0; k < 4; k++) {
            due("throwIt(" + k + ")", x.throwIt(k), 50 + k);
        }
    }

    private static void throwItFindings() {
        sentence("Promise 24: BEYOND: k. NOTHING: it holds none");
        RoomWarden x = new RoomWarden();
        int[] ks = {-1, 4, LOW, HIGH};
        for (int i = 0; i < ks.length; i++) {
            due("throwIt(" + ks[i] + ")", x.throwIt(ks[i]), -1);
        }
        for (int k = 0; k < 4; k++) {
            due("throwIt(" + k + ")", x.throwIt(k), -4);
            x.hold(k, 99);
            due("throwIt(" + k + ")", x.throwIt(k), 99);
            due("throwIt(" + k + "), it stays", x.throwIt(k), 99);
            x.hold(k, 0);
            due("throwIt(" + k + ")", x.throwIt(k), -4);
        }
    }

    private static void foundFindings() {
        sentence("Promise 25: BEYOND: another number (counted, too)");
        RoomWarden x = new RoomWarden();
        int[] wrong = {0, 1, -10, LOW, HIGH};
        for (int i = 0; i < wrong.length; i++) {
            due("found(-1)", x.found(-1), i);
            due("found(" + wrong[i] + ")", x.found(wrong[i]), -1);
        }
        due("found(-1)", x.found(-1), 5);
        due("found(-9)", x.found(-9), 0);
        due("found(-1), asking counts nothing", x.found(-1), 5);
    }

    public static void main(String[] args) {
        newObject();
        newObjectWithoutOpen();
        openFindings();
        openBeginsAnew();
        openKeeps();
        pageFindings();
        pageIsNew();
        zoneFindings();
        zoneBy();
        wantFindings();
        wantOf100();
        giveFindings();
        guardFindings();
        growFindings();
        growIsFull();
        shrinkFindings();
        writeFindings();
        readFindings();
        valueAtFirst();
        copyHandles();
        copySizes();
        copyBeyond();
        copyOfNone();
        copyInItself();
        fillFindings();
        blockFindings();
        blockPlaces();
        blockWords();
        spoilFindings();
        peekFindings();
        peekKinds();
        largestFindings();
        largestIsTheGreatest();
        largestOfEdges();
        toldFindings();
        mapFindings();
        mapOfNoBlock();
        countFindings();
        saveInPlace();
        saveButTheValue();
        backFindings();
        backStays();
        backToOtherZones();
        holdFindings();
        throwItFindings();
        foundFindings();
        DUE.end();
    }
}
