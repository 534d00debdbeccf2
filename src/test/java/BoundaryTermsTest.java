/**
 * The head of the document and Terms 1 to 3: a test of its own for each sentence that names a boundary
 * (too small, too large, empty, full, and what is left at an edge). That a refused call changes
 * nothing is told by RefusedTest; Terms 4 and 5 are in BoundaryGrowthTest.
 */
public final class BoundaryTermsTest {
    private static final Due DUE = new Due();

    private static void sentence(String words) {
        DUE.part(words);
    }

    private static void due(String call, long got, long want) {
        DUE.due(call, got, want);
    }

    private static RoomWarden with(int pages, int kind, long by) {
        return Due.with(pages, kind, by);
    }

    /** How many numbers of a piece of a SPAN, BEST, FIRST or GUARD are not the block's own. */
    private static int aside(int kind) {
        return kind == 5 ? 3 : 1;
    }

    private static int placesWith(RoomWarden x, long v) {
        int n = 0;
        int places = 64 * x.count(0);
        for (int p = 0; p < places; p++) {
            x.peek(p);
            n += x.value() == v ? 1 : 0;
        }
        return n;
    }

    // The head, and Terms 1

    private static void callsTo512() {
        sentence("An object is used for at most 512 calls");
        RoomWarden x = with(1, 4, 0);
        for (int g = 0; g < 255; g++) {
            due("want(0, 63)", x.want(0, 63), 100 * g);
            due("give(" + 100 * g + ")", x.give(100 * g), 63);
        }
    }

    private static void pagesTo40() {
        sentence("Terms 1: PAGES 0, 1, .. (at most 40) have 64 NUMBERS each");
        RoomWarden x = Due.opened(40);
        DUE.at(x, 2559, 0, 0);
        due("peek(2560)", x.peek(2560), -1);
        due("page(39, false)", x.page(39, false), 1);
        due("page(40, false)", x.page(40, false), -1);
        due("peek(2495), the last of page 38", x.peek(2495), 0);
        due("peek(2496), the first of page 39", x.peek(2496), -2);
        RoomWarden one = Due.opened(1);
        due("peek(63)", one.peek(63), 0);
        due("peek(64)", one.peek(64), -1);
    }

    private static void pageIsOneOfThree() {
        sentence("Terms 1: A page is MISSING, FREE, or a ZONE's");
        RoomWarden x = with(3, 4, 0);
        x.page(0, false);
        x.want(0, 1);
        DUE.map(x, "1:64 2:1 3:1 2:1 4:61 0:64");
        due("count(1)", x.count(1), 1);
        due("told(0, 1)", x.told(0, 1), 1);
        x.give(0);
        DUE.map(x, "1:64 0:64 0:64");
    }

    private static void otherNumbersAre0() {
        for (int kind = 0; kind < 6; kind++) {
            sentence("Terms 1: A number that is in no BLOCK and is no GUARD word is 0, kind " + kind);
            RoomWarden x = with(1, kind, 9);
            x.want(0, 9);
            x.want(0, 7);
            x.want(0, 9);
            for (int s = 0; s < 3; s++) {
                x.fill(s, 5);
            }
            due("shrink(1, 2)", x.shrink(1, 2), 5);
            due("give(0)", x.give(0), 9);
            due("numbers 5", placesWith(x, 5), 11);
            due("grow(1, 9)", x.grow(1, 9), kind == 0 ? 1 : 2);
            due("numbers 0", placesWith(x, 0), 64 - 11 - (kind == 5 ? 4 : 0));
            due("numbers 9", placesWith(x, 9), kind == 5 ? 4 : 0);
        }
    }

    // Terms 2

    private static void numbersBegin0() {
        for (int kind = 0; kind < 6; kind++) {
            sentence("Terms 2: numbers 0, 1, .. all 0 as it is given out, kind " + kind);
            RoomWarden x = with(1, kind, 20);
            x.want(0, 1);
            x.want(0, 20);
            int place = x.block(1, 2);
            x.fill(1, 77);
            x.give(1);
            due("want(0, 20)", x.want(0, 20), 101);
            due("block(101, 2)", x.block(101, 2), place);
            for (int i = 0; i < 20; i++) {
                DUE.number(x, 101, i, 0);
            }
        }
    }

    private static void leastNumberOfHandles() {
        sentence("Terms 2: s being the least of 0 .. 99 that no block has just then");
        RoomWarden x = with(2, 1, 0);
        for (int s = 0; s < 100; s++) {
            due("want(0, 1)", x.want(0, 1), s);
        }
        int[] back = {99, 0, 50};
        for (int i = 0; i < back.length; i++) {
            due("give", x.give(back[i]), 1);
        }
        due("want(0, 1)", x.want(0, 1), 100);
        due("want(0, 1)", x.want(0, 1), 150);
        due("want(0, 1)", x.want(0, 1), 199);
        due("want(0, 1) of 101", x.want(0, 1), -6);
    }

    private static void timesGivenOut() {
        sentence("Terms 2: g how often s was given out ahead of that");
        RoomWarden x = with(2, 1, 0);
        x.want(0, 1);
        int size = 1;
        for (int g = 0; g < 5; g++) {
            size *= 2;
            due("want(0, 1)", x.want(0, 1), 100 * g + 1);
            due("grow(0, " + size + "): a copy is not counted", x.grow(0, size), 2);
            due("give", x.give(100 * g + 1), 1);
        }
        due("block(0, 0)", x.block(0, 0), 32);
        due("want(0, 1)", x.want(0, 1), 501);
        due("want(0, 1)", x.want(0, 1), 2);
    }

    private static void handleOfNothing() {
        sentence("Terms 2: NOTHING if it is below 0, or its s wasn't given out more than g times");
        RoomWarden x = with(1, 4, 0);
        due("block(0, 0) ahead of all", x.block(0, 0), -4);
        x.want(0, 3);
        due("block(0, 0)", x.block(0, 0), 3);
        due("block(-1, 0)", x.block(-1, 0), -4);
        due("block(-100, 0)", x.block(-100, 0), -4);
        due("block(LOW, 0)", x.block(Due.LOW, 0), -4);
        due("block(1, 0)", x.block(1, 0), -4);
        due("block(99, 0)", x.block(99, 0), -4);
        due("block(100, 0)", x.block(100, 0), -4);
        due("block(HIGH, 0)", x.block(Due.HIGH, 0), -4);
        due("block(HIGH - 47, 0), its s is 0", x.block(Due.HIGH - 47, 0), -4);
        x.give(0);
        due("block(100, 0) as 0 is back", x.block(100, 0), -4);
    }

    private static void handleOfOld() {
        sentence("Terms 2: then OLD if its block was given back");
        RoomWarden x = with(1, 4, 0);
        x.want(0, 3);
        x.give(0);
        due("block(0, 0)", x.block(0, 0), -5);
        due("want(0, 4)", x.want(0, 4), 100);
        due("block(0, 0) as s has another block", x.block(0, 0), -5);
        due("block(100, 0)", x.block(100, 0), 4);
        due("block(200, 0)", x.block(200, 0), -4);
        x.give(100);
        due("want(0, 5)", x.want(0, 5), 200);
        due("block(0, 0)", x.block(0, 0), -5);
        due("block(100, 0)", x.block(100, 0), -5);
        due("block(200, 0)", x.block(200, 0), 5);
    }

    // Terms 3: SLAB

    private static void zonesTo8() {
        sentence("Terms 3: ZONES 0, 1, .. (at most 8)");
        RoomWarden x = Due.opened(1);
        for (int z = 0; z < 8; z++) {
            due("zone", x.zone(z % 6, 1), z);
        }
        due("zone of nine", x.zone(1, 1), -6);
        due("want(7, 0)", x.want(7, 0), 0);
        due("want(8, 0)", x.want(8, 0), -1);
    }

    private static void slabOfEachClass() {
        for (int c = 1; c <= 32; c++) {
            sentence("Terms 3: SLAB, as many SLOTS as there is room for; what is left is WASTE, class " + c);
            RoomWarden x = with(1, 0, c);
            int slots = 63 / c;
            for (int s = 0; s < slots; s++) {
                due("want(0, c)", x.want(0, c), s);
                due("its place", x.block(s, 2), 1 + s * c);
            }
            due("told(0, 3) of a full page", x.told(0, 3), 0);
            due("want(0, 0) of a full page", x.want(0, 0), -6);
            int waste = 63 - slots * c;
            due("entries", x.count(4), 1 + slots + (waste > 0 ? 1 : 0));
            due("the last entry's kind", x.map(x.count(4) - 1, 2), waste > 0 ? 5 : 3);
            due("the last entry's length", x.map(x.count(4) - 1, 1), waste > 0 ? waste : c);
        }
    }

    private static void slabLowestSlot() {
        sentence("Terms 3: SLAB, want takes the lowest free slot; without one the lowest free page comes");
        RoomWarden x = with(4, 0, 31);
        x.page(0, false);
        for (int s = 0; s < 4; s++) {
            x.want(0, 31);
        }
        due("told(0, 1)", x.told(0, 1), 2);
        x.page(0, true);
        x.give(2);
        x.give(1);
        due("want(0, 1) in a slot of a page that it has", x.want(0, 1), 101);
        due("block(101, 2)", x.block(101, 2), 96);
        due("want(0, 1)", x.want(0, 1), 102);
        due("block(102, 2)", x.block(102, 2), 129);
        due("want(0, 1) without a slot", x.want(0, 1), 4);
        due("block(4, 2)", x.block(4, 2), 1);
    }

    private static void slabSizes() {
        sentence("Terms 3: SLAB, sizes to c");
        RoomWarden x = with(1, 0, 32);
        due("want(0, 33)", x.want(0, 33), -1);
        due("want(0, 0) has a slot", x.want(0, 0), 0);
        DUE.map(x, "2:1 3:32 5:31");
        due("grow(0, 33)", x.grow(0, 33), -1);
        due("grow(0, 32)", x.grow(0, 32), 1);
    }

    // Terms 3: BUDDY

    private static void buddyOfEachSize() {
        for (int size = 0; size <= 64; size++) {
            sentence("Terms 3: BUDDY, the least one that holds it (of size 0 one of 1), size " + size);
            RoomWarden x = with(1, 1, 0);
            int length = 1;
            int parted = 6;
            while (length < size) {
                length *= 2;
                parted--;
            }
            due("want(0, size)", x.want(0, size), 0);
            due("block(0, 0)", x.block(0, 0), size);
            due("map(0, 1)", x.map(0, 1), length);
            due("told(0, 3)", x.told(0, 3), parted);
            due("largest(0)", x.largest(0), length == 64 ? -6 : 32);
            due("write of its last", x.write(0, size - 1, 1), size == 0 ? -1 : 0);
            due("write beyond", x.write(0, size, 1), -1);
        }
        sentence("Terms 3: BUDDY, sizes to 64");
        due("want(0, 65)", with(2, 1, 0).want(0, 65), -1);
    }

    private static void buddyLeastThenLowest() {
        sentence("Terms 3: BUDDY, of the free ones that are long enough the least, of these the lowest");
        RoomWarden x = with(2, 1, 0);
        x.want(0, 32);
        x.want(0, 16);
        x.want(0, 8);
        x.give(0);
        DUE.map(x, "4:32 3:16 3:8 4:8 0:64");
        due("want(0, 8), the least", x.want(0, 8), 100);
        due("block(100, 2)", x.block(100, 2), 56);
        due("want(0, 8), of the only one", x.want(0, 8), 3);
        DUE.map(x, "3:8 4:8 4:16 3:16 3:8 3:8 0:64");
        due("give(1)", x.give(1), 16);
        DUE.map(x, "3:8 4:8 4:16 4:16 3:8 3:8 0:64");
        due("want(0, 16), of two", x.want(0, 16), 101);
        due("block(101, 2)", x.block(101, 2), 16);
        due("want(0, 17) without one", x.want(0, 17), 4);
        DUE.map(x, "3:8 4:8 3:16 4:16 3:8 3:8 3:32 4:32");
    }

    private static void buddyPairs() {
        sentence("Terms 3: BUDDY, a free piece whose pair is a free one of the same length is joined");
        RoomWarden x = with(1, 1, 0);
        for (int s = 0; s < 4; s++) {
            x.want(0, 16);
        }
        x.give(1);
        x.give(2);
        DUE.map(x, "3:16 4:16 4:16 3:16");
        due("want(0, 17) as those two are no pair", x.want(0, 17), -6);
        due("give(0)", x.give(0), 16);
        DUE.map(x, "4:32 4:16 3:16");
        due("give(3)", x.give(3), 16);
        DUE.map(x, "0:64");
        RoomWarden y = with(1, 1, 0);
        y.want(0, 32);
        y.want(0, 16);
        y.give(0);
        DUE.map(y, "4:32 3:16 4:16");
        RoomWarden z = with(1, 1, 0);
        z.want(0, 0);
        DUE.map(z, "3:1 4:1 4:2 4:4 4:8 4:16 4:32");
        due("give(0) joins again and again", z.give(0), 0);
        DUE.map(z, "0:64");
    }

    // Terms 3: SPAN, BEST, FIRST, GUARD

    private static void rowsOfNothing() {
        for (int kind = 2; kind < 6; kind++) {
            sentence("Terms 3: SPAN, a HEAD of one number, then any number of others, 0 too, kind " + kind);
            RoomWarden x = with(1, kind, 8);
            due("want(0, 0)", x.want(0, 0), 0);
            DUE.map(x, kind == 5 ? "2:1 6:1 6:1 2:1 4:60" : "2:1 2:1 4:62");
            due("block(0, 2), where it would be", x.block(0, 2), kind == 5 ? 2 : 1);
            due("give(0)", x.give(0), 0);
            due("want of all but one number of a page", x.want(0, 63 - aside(kind)), 100);
            due("told(0, 3), a head alone", x.told(0, 3), 1);
            due("largest(0)", x.largest(0), kind == 5 ? -6 : 0);
            due("want(0, 0) in a head alone", x.want(0, 0), kind == 5 ? -6 : 1);
            due("told(0, 3)", x.told(0, 3), kind == 5 ? 1 : 0);
        }
    }

    private static void rowsNeedPages() {
        for (int kind = 2; kind < 6; kind++) {
            for (int pages = 1; pages <= 3; pages++) {
                sentence("Terms 3: pages of the least number that holds head and block, kind " + kind);
                int all = 64 * pages - aside(kind);
                RoomWarden x = with(4, kind, 8);
                due("want of all of " + pages, x.want(0, all), 0);
                due("told(0, 1)", x.told(0, 1), pages);
                due("told(0, 3), nothing is left", x.told(0, 3), 0);
                RoomWarden y = with(4, kind, 8);
                due("want of one more", y.want(0, all + 1), 0);
                due("told(0, 1)", y.told(0, 1), pages + 1);
                due("told(0, 3)", y.told(0, 3), 1);
                RoomWarden z = with(4, kind, 8);
                due("want of one less", z.want(0, all - 1), 0);
                due("told(0, 1)", z.told(0, 1), pages);
                due("told(0, 3), a head alone", z.told(0, 3), 1);
                RoomWarden few = with(pages, kind, 8);
                due("want of one more than there is", few.want(0, all + 1), -6);
            }
        }
    }

    private static void rowsSizes() {
        for (int kind = 2; kind < 6; kind++) {
            sentence("Terms 3: sizes to 2000, kind " + kind);
            RoomWarden x = with(40, kind, 8);
            due("want(0, 2001)", x.want(0, 2001), -1);
            due("want(0, 2000)", x.want(0, 2000), 0);
            due("told(0, 1)", x.told(0, 1), 32);
            due("write of its last", x.write(0, 1999, 1), 0);
            due("write beyond", x.write(0, 2000, 1), -1);
            RoomWarden y = with(31, kind, 8);
            due("want(0, 2000) of 31 pages", y.want(0, 2000), -6);
            due("want of all of them", y.want(0, 1984 - aside(kind)), 0);
        }
    }

    private static void lowestPagesSideBySide() {
        for (int kind = 2; kind < 6; kind++) {
            sentence("Terms 3: the lowest FREE pages side by side, kind " + kind);
            RoomWarden x = with(8, kind, 8);
            x.page(1, false);
            x.page(4, false);
            due("want of two pages", x.want(0, 125), 0);
            String taken = kind == 5 ? "2:1 6:1 3:125 6:1" : "2:1 3:125 2:1 4:1";
            DUE.map(x, "0:64 1:64 " + taken + " 1:64 0:64 0:64 0:64");
            due("want of three pages", x.want(0, 189), 1);
            due("its place", x.block(1, 2), kind == 5 ? 322 : 321);
            due("want of two more", x.want(0, 66), -6);
            due("want of one", x.want(0, 61), 2);
            due("its place", x.block(2, 2), kind == 5 ? 2 : 1);
        }
    }

    private static void newPagesAreJoined() {
        sentence("Terms 3: come to the zone, as a free piece (joined with those that it touches)");
        for (int kind = 2; kind < 5; kind++) {
            RoomWarden x = with(3, kind, 0);
            x.page(0, false);
            x.want(0, 10);
            x.want(0, 20);
            x.give(0);
            x.page(2, false);
            DUE.map(x, "1:64 2:1 4:10 2:1 3:20 2:1 4:31 1:64");
            x.page(0, true);
            due("want(0, 64): two pages are needed whatever they touch", x.want(0, 64), -6);
            due("want(0, 63)", x.want(0, 63), 100);
            DUE.map(x, "2:1 3:63 2:1 4:10 2:1 3:20 2:1 4:31 1:64");
            x.page(2, true);
            due("want(0, 62)", x.want(0, 62), 2);
            DUE.map(x, "2:1 3:63 2:1 4:10 2:1 3:20 2:1 3:62 2:1 4:32");
        }
        RoomWarden g = with(2, 5, 8);
        g.want(0, 40);
        due("want(0, 61)", g.want(0, 61), 1);
        DUE.map(g, "2:1 6:1 3:40 6:1 2:1 6:1 3:61 6:1 2:1 4:20");
    }

    private static void exactPieces() {
        for (int kind = 2; kind < 6; kind++) {
            sentence("Terms 3: that have as many numbers behind their heads as are wanted, kind " + kind);
            int aside = aside(kind);
            RoomWarden x = with(1, kind, 8);
            x.want(0, 20 - aside);
            x.want(0, 44 - aside);
            x.give(0);
            due("want of one too many", x.want(0, 21 - aside), -6);
            due("want of all", x.want(0, 20 - aside), 100);
            due("told(0, 3), nothing is left", x.told(0, 3), 0);
            x.give(100);
            due("want of all but one", x.want(0, 19 - aside), 200);
            due("told(0, 3), a head alone is left", x.told(0, 3), 1);
            due("peek(19)", x.peek(19), 2);
        }
    }

    /** One page with free pieces of 9, 5, 15, 9, 5 and 15 numbers, heads with them, a block of size 0 ahead of each. */
    private static RoomWarden sixPieces(int kind) {
        RoomWarden x = with(1, kind, 0);
        int[] lengths = {9, 5, 15, 9, 5, 15};
        for (int i = 0; i < 6; i++) {
            x.want(0, 0);
            x.want(0, lengths[i] - 1);
        }
        for (int i = 0; i < 6; i++) {
            x.give(2 * i + 1);
        }
        return x;
    }

    /** What each of SPAN, BEST and FIRST takes: the size that is wanted, then where the piece begins. */
    private static void whichPiece() {
        sentence("Terms 3: SPAN takes the longest, of these the lowest; BEST the shortest; FIRST the lowest");
        int[][] taken = {
            {0, 17, 11, 1}, {4, 17, 11, 1}, {5, 17, 1, 1}, {8, 17, 1, 1}, {9, 17, 17, 17}, {14, 17, 17, 17}};
        for (int kind = 2; kind < 5; kind++) {
            DUE.map(sixPieces(kind), "2:1 2:1 4:8 2:1 2:1 4:4 2:1 2:1 4:14 2:1 2:1 4:8 2:1 2:1 4:4 2:1 2:1 4:14");
            for (int i = 0; i < taken.length; i++) {
                RoomWarden x = sixPieces(kind);
                int h = x.want(0, taken[i][0]);
                due("kind " + kind + ", the place of size " + taken[i][0], x.block(h, 2), taken[i][kind - 1] + 1);
            }
            due("want(0, 15)", sixPieces(kind).want(0, 15), -6);
        }
        int[] second = {49, 43, 11};
        for (int kind = 2; kind < 5; kind++) {
            RoomWarden x = sixPieces(kind);
            x.want(0, 4);
            due("kind " + kind + ", the second of size 4", x.block(x.want(0, 4), 2), second[kind - 2] + 1);
        }
    }

    private static void guardTakesTheLowest() {
        sentence("Terms 3: GUARD, as FIRST");
        RoomWarden x = with(1, 5, 8);
        int[] sizes = {3, 0, 2, 0, 12};
        for (int i = 0; i < sizes.length; i++) {
            x.want(0, sizes[i]);
        }
        x.give(0);
        x.give(2);
        DUE.map(x, "2:1 4:5 2:1 6:1 6:1 2:1 4:4 2:1 6:1 6:1 2:1 6:1 3:12 6:1 2:1 4:31");
        due("want(0, 4) is too long for both", x.block(x.want(0, 4), 2), 34);
        due("want(0, 2)", x.block(x.want(0, 2), 2), 2);
        due("want(0, 2)", x.block(x.want(0, 2), 2), 11);
    }

    private static void guardWords() {
        sentence("Terms 3: GUARD, n + 2 numbers behind its head, the first and the last are w");
        long[] words = {0, -1, Long.MIN_VALUE, Long.MAX_VALUE, 1L << 32};
        for (int i = 0; i < words.length; i++) {
            RoomWarden x = with(1, 5, words[i]);
            x.want(0, 5);
            DUE.at(x, 1, 6, words[i]);
            DUE.at(x, 7, 6, words[i]);
            due("grow(0, 7)", x.grow(0, 7), 1);
            DUE.at(x, 1, 6, words[i]);
            DUE.at(x, 7, 3, 0);
            DUE.at(x, 9, 6, words[i]);
            due("shrink(0, 0)", x.shrink(0, 0), 7);
            DUE.at(x, 1, 6, words[i]);
            DUE.at(x, 2, 6, words[i]);
            DUE.at(x, 9, 4, 0);
        }
    }

    // Terms 3: the end of each act

    private static void slabPagesGo() {
        sentence("Terms 3: each page that lies wholly in free slots (but head and waste) is FREE again");
        RoomWarden x = with(2, 0, 31);
        for (int s = 0; s < 4; s++) {
            x.want(0, 1);
        }
        x.give(0);
        due("count(1) with one block on each page", x.count(1), 0);
        x.give(1);
        DUE.map(x, "0:64 2:1 3:31 3:31 5:1");
        x.give(3);
        DUE.map(x, "0:64 2:1 3:31 4:31 5:1");
        x.give(2);
        DUE.map(x, "0:64 0:64");
    }

    private static void slabPageBesideAFullOneGoes() {
        for (int c = 1; c <= 32; c++) {
            sentence("Terms 3: a SLAB's page goes, whatever the page beside it has, class " + c);
            int slots = 63 / c;
            RoomWarden x = with(2, 0, c);
            for (int s = 0; s < Math.min(100, 2 * slots); s++) {
                x.want(0, c);
            }
            for (int s = 0; s < slots; s++) {
                due("give(" + s + ")", x.give(s), c);
                due("count(1)", x.count(1), s == slots - 1 ? 1 : 0);
            }
            due("peek(0)", x.peek(0), 0);
            due("peek(64)", x.peek(64), 2);
        }
    }

    private static void slabPageOfOneBlockStays() {
        for (int c = 1; c <= 32; c++) {
            sentence("Terms 3: a SLAB's page with one block in its first or its last slot stays, class " + c);
            int slots = 63 / c;
            for (int left = 0; left < slots; left += Math.max(1, slots - 1)) {
                RoomWarden x = with(1, 0, c);
                for (int s = 0; s < slots; s++) {
                    x.want(0, c);
                }
                for (int s = 0; s < slots; s++) {
                    due("give(" + s + ")", s == left ? c : x.give(s), c);
                }
                due("told(0, 1)", x.told(0, 1), 1);
                due("told(0, 2)", x.told(0, 2), 1);
                due("told(0, 3)", x.told(0, 3), slots - 1);
                due("block(" + left + ", 2)", x.block(left, 2), 1 + left * c);
                due("give(" + left + ")", x.give(left), c);
                due("told(0, 1)", x.told(0, 1), 0);
                due("count(1)", x.count(1), 1);
            }
        }
    }

    /** Where blocks and pieces of one zone began must not show as the page comes to a SLAB, waste and all. */
    private static void freePagesAreAsNew() {
        for (int kind = 0; kind < 6; kind++) {
            sentence("Terms 3: is FREE again, and comes to another zone as any other, kind " + kind);
            for (int anew = 0; anew < 2; anew++) {
                RoomWarden x = with(1, kind, 1);
                int given = 0;
                while (given < 64 && x.want(0, kind == 5 ? 0 : 1) >= 0) {
                    given++;
                }
                for (int s = 0; s < given && anew == 0; s++) {
                    x.give(s);
                }
                int zone = 1;
                if (anew == 1) {
                    due("open(1)", x.open(1), 1);
                    zone = 0;
                }
                DUE.map(x, "0:64");
                due("zone(0, 32)", x.zone(0, 32), zone);
                due("want of a SLAB", x.want(zone, 32) % 100, 0);
                DUE.map(x, "2:1 3:32 5:31");
                due("told(.., 3)", x.told(zone, 3), 0);
            }
        }
    }

    private static void lastPlaceOfAll() {
        for (int kind = 0; kind < 6; kind++) {
            sentence("Terms 1: the last place of 40 pages, kind " + kind);
            RoomWarden x = with(40, kind, 21);
            for (int k = 0; k < 39; k++) {
                x.page(k, false);
            }
            int size = x.largest(0);
            int h = x.want(0, size);
            for (int s = 1; s < 3 && kind == 0; s++) {
                h = x.want(0, size);
            }
            due("fill", x.fill(h, 6), size);
            DUE.at(x, 2559, kind == 5 ? 6 : 3, kind == 5 ? 21 : 6);
            DUE.number(x, h, size - 1, 6);
            due("copy of its last number", x.copy(h, size - 1, h, 0, 1), 1);
            due("grow of one more", x.grow(h, size + 1), kind < 2 ? -1 : -6);
            due("shrink by one", x.shrink(h, size - 1), 1);
            due("peek(2559)", x.peek(2559), kind < 2 ? 3 : 2);
            due("grow by one", x.grow(h, size), 1);
            DUE.number(x, h, size - 1, 0);
            due("give", x.give(h), size);
        }
    }

    private static void wholePageGoes() {
        sentence("Terms 3: each page that lies wholly in one free piece is FREE again");
        for (int kind = 2; kind < 5; kind++) {
            RoomWarden x = with(3, kind, 0);
            for (int s = 0; s < 3; s++) {
                x.want(0, 63);
            }
            due("give(1), just a page", x.give(1), 63);
            DUE.map(x, "2:1 3:63 0:64 2:1 3:63");
            due("give(0)", x.give(0), 63);
            DUE.map(x, "0:64 0:64 2:1 3:63");
            RoomWarden y = with(3, kind, 0);
            y.want(0, 62);
            y.want(0, 63);
            y.want(0, 62);
            due("give(1), a page but for its last number", y.give(1), 63);
            DUE.map(y, "2:1 3:62 2:1 4:63 2:1 3:62 2:1 4:1");
            RoomWarden z = with(3, kind, 0);
            z.want(0, 64);
            z.want(0, 62);
            z.want(0, 10);
            due("give(1), a page but for its first number", z.give(1), 62);
            DUE.map(z, "2:1 3:64 2:1 4:62 2:1 3:10 2:1 4:52");
        }
    }

    private static void whatIsLeftAhead() {
        sentence("Terms 3: what is left of the piece ahead of it stays free");
        RoomWarden x = with(3, 4, 0);
        x.want(0, 62);
        x.want(0, 63);
        x.want(0, 62);
        x.give(1);
        due("give(2)", x.give(2), 62);
        DUE.map(x, "2:1 3:62 2:1 0:64 0:64");
        due("told(0, 3), a head alone ahead", x.told(0, 3), 1);
        due("give(0)", x.give(0), 62);
        DUE.map(x, "0:64 0:64 0:64");
    }

    private static void whatIsLeftBehind() {
        sentence("Terms 3: what is left behind it is a free piece (its first number is its head)");
        RoomWarden x = with(2, 4, 0);
        x.want(0, 64);
        x.want(0, 10);
        due("give(0)", x.give(0), 64);
        DUE.map(x, "0:64 2:1 2:1 3:10 2:1 4:51");
        RoomWarden y = with(2, 4, 0);
        y.want(0, 65);
        y.want(0, 10);
        due("give(0)", y.give(0), 65);
        DUE.map(y, "0:64 2:1 4:1 2:1 3:10 2:1 4:50");
        RoomWarden z = with(4, 5, 8);
        z.want(0, 0);
        z.want(0, 188);
        z.want(0, 0);
        due("give(1), both sides", z.give(1), 188);
        DUE.map(z, "2:1 6:1 6:1 2:1 4:60 0:64 0:64 2:1 4:1 2:1 6:1 6:1 2:1 4:58");
    }

    private static void surplusPagesGo() {
        sentence("Terms 3: at the end of each act, of want() too");
        RoomWarden x = with(3, 4, 0);
        x.want(0, 0);
        due("want(0, 63), a page comes, one number of it stays", x.want(0, 63), 1);
        DUE.map(x, "2:1 2:1 3:63 2:1 4:62 0:64");
        RoomWarden y = with(3, 4, 0);
        y.want(0, 0);
        due("want(0, 64), two pages come, one goes", y.want(0, 64), 1);
        DUE.map(y, "2:1 2:1 3:64 2:1 4:61 0:64");
        RoomWarden z = with(3, 4, 0);
        z.want(0, 39);
        due("want(0, 87), two pages come, one goes with nothing left", z.want(0, 87), 1);
        DUE.map(z, "2:1 3:39 2:1 3:87 0:64");
    }

    private static void fullOf100() {
        sentence("Terms 3: FULL if 100 blocks are there (of want() alone)");
        RoomWarden x = with(3, 1, 0);
        x.zone(0, 1);
        for (int s = 0; s < 99; s++) {
            x.want(0, 1);
        }
        due("want(1, 1), the hundredth", x.want(1, 1), 99);
        due("want(0, 1)", x.want(0, 1), -6);
        due("want(1, 1)", x.want(1, 1), -6);
        due("grow(0, 2) by a copy", x.grow(0, 2), 2);
        due("shrink(0, 1)", x.shrink(0, 1), 1);
        due("count(3)", x.count(3), 100);
        due("give(0)", x.give(0), 1);
        due("want(0, 1)", x.want(0, 1), 100);
    }

    private static void fullOfPages() {
        for (int kind = 0; kind < 6; kind++) {
            sentence("Terms 3: FULL if neither a piece nor free pages are there, kind " + kind);
            RoomWarden x = with(2, kind, 32);
            x.zone(1, 0);
            x.page(0, false);
            x.want(1, 64);
            due("want(0, 0)", x.want(0, 0), -6);
            x.page(0, true);
            due("want(0, 0)", x.want(0, 0), 1);
            x.give(1);
            x.give(0);
            due("open(0)", x.open(0), 0);
            x.zone(kind, 1);
            due("want(0, 0) without pages", x.want(0, 0), -6);
        }
    }

    public static void main(String[] args) {
        callsTo512();
        pagesTo40();
        pageIsOneOfThree();
        otherNumbersAre0();
        numbersBegin0();
        leastNumberOfHandles();
        timesGivenOut();
        handleOfNothing();
        handleOfOld();
        zonesTo8();
        slabOfEachClass();
        slabLowestSlot();
        slabSizes();
        buddyOfEachSize();
        buddyLeastThenLowest();
        buddyPairs();
        rowsOfNothing();
        rowsNeedPages();
        rowsSizes();
        lowestPagesSideBySide();
        newPagesAreJoined();
        exactPieces();
        whichPiece();
        guardTakesTheLowest();
        guardWords();
        slabPagesGo();
        slabPageBesideAFullOneGoes();
        slabPageOfOneBlockStays();
        freePagesAreAsNew();
        lastPlaceOfAll();
        wholePageGoes();
        whatIsLeftAhead();
        whatIsLeftBehind();
        surplusPagesGo();
        fullOf100();
        fullOfPages();
        DUE.end();
    }
}
