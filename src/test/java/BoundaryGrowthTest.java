/** Terms 4 (growing, cutting off) and 5 (the map): a test of its own for each sentence that names a boundary. */
public final class BoundaryGrowthTest {
    private static final Due DUE = new Due();

    private static void sentence(String words) {
        DUE.part(words);
    }

    private static void due(String call, long got, long want) {
        DUE.due(call, got, want);
    }

    private static RoomWarden with(int pages, int kind, long by) {
        return Due.with(pages, kind, by);
    }

    // Terms 4: growing

    private static void sameSizeStays() {
        for (int kind = 0; kind < 6; kind++) {
            sentence("Terms 4: with the size that it has a block stays, kind " + kind);
            RoomWarden x = with(1, kind, 31);
            x.want(0, 0);
            due("grow(0, 0)", x.grow(0, 0), 1);
            x.give(0);
            int size = x.largest(0);
            x.want(0, size);
            x.fill(100, 3);
            int place = x.block(100, 2);
            due("grow to its size on a full page", x.grow(100, size), 1);
            due("block(100, 2)", x.block(100, 2), place);
            due("block(100, 0)", x.block(100, 0), size);
            DUE.number(x, 100, size - 1, 3);
        }
    }

    private static void slabStays() {
        sentence("Terms 4: of a SLAB it stays");
        RoomWarden x = with(1, 0, 31);
        x.want(0, 0);
        x.want(0, 31);
        due("grow(0, 31) though the slot behind is taken", x.grow(0, 31), 1);
        due("block(0, 2)", x.block(0, 2), 1);
        due("block(0, 0)", x.block(0, 0), 31);
        due("grow(1, 32)", x.grow(1, 32), -1);
        DUE.map(x, "2:1 3:31 3:31 5:1");
    }

    private static void buddyStays() {
        sentence("Terms 4: of a BUDDY it stays if its piece is long enough");
        RoomWarden x = with(2, 1, 0);
        x.want(0, 0);
        due("grow(0, 1) of the piece of size 0", x.grow(0, 1), 1);
        due("grow(0, 2)", x.grow(0, 2), 2);
        DUE.map(x, "4:2 3:2 4:4 4:8 4:16 4:32 0:64");
        due("grow(0, 3)", x.grow(0, 3), 2);
        DUE.map(x, "4:4 3:4 4:8 4:16 4:32 0:64");
        due("grow(0, 4)", x.grow(0, 4), 1);
        due("grow(0, 33)", x.grow(0, 33), 2);
        DUE.map(x, "0:64 3:64");
        due("grow(0, 64)", x.grow(0, 64), 1);
        DUE.map(x, "0:64 3:64");
    }

    private static void buddyIsFull() {
        sentence("Terms 4: otherwise, also of a BUDDY, a block of that size is given out as told of want()");
        RoomWarden x = with(1, 1, 0);
        x.want(0, 32);
        due("grow(0, 33) though all behind is free", x.grow(0, 33), -6);
        DUE.map(x, "3:32 4:32");
        x.shrink(0, 16);
        due("grow(0, 32) leaves the lower half", x.grow(0, 32), 2);
        DUE.map(x, "4:32 3:32");
    }

    private static void justEnoughBehind() {
        for (int kind = 2; kind < 6; kind++) {
            sentence("Terms 4: it stays if a free one behind has (with its head) as many numbers, kind " + kind);
            RoomWarden x = with(2, kind, 8);
            int aside = kind == 5 ? 3 : 1;
            x.want(0, 10);
            x.want(0, 15 - aside);
            x.want(0, 1);
            x.fill(0, 4);
            x.fill(2, 6);
            x.give(1);
            due("grow(0, 24) leaves a head alone", x.grow(0, 24), 1);
            due("peek behind it", x.peek(24 + aside), 2);
            due("grow(0, 25) takes the head too", x.grow(0, 25), 1);
            due("told(0, 3)", x.told(0, 3), 1);
            DUE.number(x, 0, 9, 4);
            DUE.number(x, 0, 10, 0);
            DUE.number(x, 0, 24, 0);
            DUE.number(x, 2, 0, 6);
            due("block(0, 3)", x.block(0, 3), 0);
            due("block(2, 3)", x.block(2, 3), 0);
            due("grow(0, 26), one too many", x.grow(0, 26), 2);
            DUE.number(x, 0, 9, 4);
            DUE.number(x, 0, 25, 0);
        }
    }

    private static void oneTooFewBehind() {
        for (int kind = 2; kind < 6; kind++) {
            sentence("Terms 4: a free one behind that is one number too short is not taken, kind " + kind);
            int aside = kind == 5 ? 3 : 1;
            RoomWarden x = with(1, kind, 8);
            x.want(0, 10);
            x.want(0, 15 - aside);
            x.want(0, 1);
            x.give(1);
            int pieces = 10 + aside + 15 + 1 + aside;
            due("grow(0, 26)", x.grow(0, 26), 2);
            due("block(0, 2), behind the last one", x.block(0, 2), pieces + (kind == 5 ? 2 : 1));
            due("told(0, 3)", x.told(0, 3), 2);
            due("the length of what is free ahead", x.map(1, 1), 10 + aside + 15 - 1);
        }
    }

    private static void behindInItsRow() {
        sentence("Terms 4: what lies behind its piece in its row");
        RoomWarden x = with(4, 4, 0);
        x.zone(4, 0);
        x.want(0, 63);
        due("grow(0, 64) beside a FREE page", x.grow(0, 64), 2);
        DUE.map(x, "0:64 2:1 3:64 2:1 4:62 0:64");
        RoomWarden y = with(4, 4, 0);
        y.zone(4, 0);
        y.want(0, 60);
        y.want(1, 1);
        y.give(1);
        y.want(1, 63);
        y.shrink(101, 0);
        due("grow(0, 63) to the end of its row", y.grow(0, 63), 1);
        due("grow(0, 64) beside another zone's page", y.grow(0, 64), 2);
        due("block(0, 2)", y.block(0, 2), 129);
        RoomWarden z = with(2, 4, 0);
        z.page(1, false);
        z.want(0, 62);
        due("grow(0, 63) takes the head alone", z.grow(0, 63), 1);
        due("grow(0, 64) beside a MISSING page", z.grow(0, 64), -6);
        RoomWarden last = with(1, 4, 0);
        last.want(0, 0);
        due("grow(0, 63) takes all there is", last.grow(0, 63), 1);
        DUE.map(last, "2:1 3:63");
        due("grow(0, 64) at the end of all", last.grow(0, 64), -6);
    }

    private static void overTheEdgeOfPages() {
        sentence("Terms 4: pages side by side are one row, and growing goes over their edge");
        RoomWarden x = with(2, 4, 0);
        x.want(0, 40);
        x.want(0, 60);
        x.want(0, 20);
        x.fill(0, 4);
        x.give(1);
        DUE.map(x, "2:1 3:40 2:1 4:60 2:1 3:20 2:1 4:4");
        due("grow(0, 100)", x.grow(0, 100), 1);
        DUE.map(x, "2:1 3:100 2:1 2:1 3:20 2:1 4:4");
        DUE.number(x, 0, 39, 4);
        DUE.number(x, 0, 99, 0);
    }

    private static void oldOneIsThereStill() {
        sentence("Terms 4: given out as told of want() (the old one being there still)");
        RoomWarden x = with(1, 4, 0);
        x.want(0, 10);
        x.want(0, 20);
        x.want(0, 1);
        x.give(0);
        x.fill(1, 5);
        due("grow(1, 31) though it would fit over its own place", x.grow(1, 31), -6);
        due("grow(1, 30), one too many for the piece at the end", x.grow(1, 30), -6);
        DUE.map(x, "2:1 4:10 2:1 3:20 2:1 3:1 2:1 4:29");
        due("grow(1, 29)", x.grow(1, 29), 2);
        DUE.map(x, "2:1 4:31 2:1 3:1 2:1 3:29");
        DUE.number(x, 1, 19, 5);
        DUE.number(x, 1, 20, 0);
        due("peek(31)", x.peek(31), 4);
        due("value() where it was", x.value(), 0);
    }

    private static void handleStays() {
        sentence("Terms 4: the old one is given back; the handle stays");
        RoomWarden x = with(3, 5, 8);
        x.want(0, 61);
        x.fill(0, 5);
        due("grow(0, 62)", x.grow(0, 62), 2);
        due("block(0, 0)", x.block(0, 0), 62);
        due("block(100, 0)", x.block(100, 0), -4);
        due("count(3)", x.count(3), 1);
        DUE.map(x, "0:64 2:1 6:1 3:62 6:1 2:1 4:62");
        due("map(2, 3)", x.map(2, 3), 0);
        DUE.at(x, 65, 6, 8);
        DUE.at(x, 128, 6, 8);
        due("want(0, 0)", x.want(0, 0), 1);
    }

    private static void newNumbersAre0() {
        for (int kind = 0; kind < 6; kind++) {
            sentence("Terms 4: new numbers are 0, kind " + kind);
            RoomWarden x = with(2, kind, 20);
            x.want(0, 20);
            x.fill(0, 9);
            due("shrink(0, 17)", x.shrink(0, 17), 3);
            due("grow(0, 20)", x.grow(0, 20), 1);
            DUE.number(x, 0, 16, 9);
            DUE.number(x, 0, 17, 0);
            DUE.number(x, 0, 19, 0);
            due("shrink(0, 0)", x.shrink(0, 0), 20);
            due("grow(0, 20)", x.grow(0, 20), kind == 1 ? 2 : 1);
            DUE.number(x, 0, 0, 0);
            DUE.number(x, 0, 19, 0);
        }
    }

    // Terms 4: cutting off

    private static void slabCut() {
        sentence("Terms 4: CUTTING OFF, of a SLAB nothing more");
        RoomWarden x = with(1, 0, 31);
        x.want(0, 31);
        due("shrink(0, 0)", x.shrink(0, 0), 31);
        DUE.map(x, "2:1 3:31 4:31 5:1");
        due("block(0, 0)", x.block(0, 0), 0);
        due("count(1), the page stays", x.count(1), 0);
    }

    private static void buddyCut() {
        sentence("Terms 4: CUTTING OFF, of a BUDDY as long as half of its piece is enough the upper half is free");
        RoomWarden x = with(1, 1, 0);
        x.want(0, 64);
        due("shrink(0, 33)", x.shrink(0, 33), 31);
        DUE.map(x, "3:64");
        due("shrink(0, 32)", x.shrink(0, 32), 1);
        DUE.map(x, "3:32 4:32");
        due("shrink(0, 5)", x.shrink(0, 5), 27);
        DUE.map(x, "3:8 4:8 4:16 4:32");
        due("shrink(0, 1)", x.shrink(0, 1), 4);
        DUE.map(x, "3:1 4:1 4:2 4:4 4:8 4:16 4:32");
        due("shrink(0, 0), of size 0 one of 1", x.shrink(0, 0), 1);
        DUE.map(x, "3:1 4:1 4:2 4:4 4:8 4:16 4:32");
        RoomWarden y = with(1, 1, 0);
        y.want(0, 64);
        due("shrink(0, 0) at once", y.shrink(0, 0), 64);
        DUE.map(y, "3:1 4:1 4:2 4:4 4:8 4:16 4:32");
    }

    private static void rowCut() {
        for (int kind = 2; kind < 6; kind++) {
            sentence("Terms 4: CUTTING OFF, what is no longer needed is a free piece, kind " + kind);
            RoomWarden x = with(1, kind, 8);
            String before = kind == 5 ? "2:1 6:1 " : "2:1 ";
            String after = kind == 5 ? " 6:1" : "";
            int all = kind == 5 ? 61 : 63;
            x.want(0, all);
            x.fill(0, 7);
            due("shrink by 0", x.shrink(0, all), 0);
            DUE.map(x, before + "3:" + all + after);
            due("shrink by 1, a head alone", x.shrink(0, all - 1), 1);
            DUE.map(x, before + "3:" + (all - 1) + after + " 2:1");
            due("shrink by 1 more, joined with it", x.shrink(0, all - 2), 1);
            DUE.map(x, before + "3:" + (all - 2) + after + " 2:1 4:1");
            DUE.at(x, 63, 4, 0);
            DUE.at(x, 62, 2, 0);
            due("shrink(0, 0)", x.shrink(0, 0), all - 2);
            DUE.map(x, kind == 5 ? "2:1 6:1 6:1 2:1 4:60" : "2:1 2:1 4:62");
            due("block(0, 3)", x.block(0, 3), 0);
        }
    }

    private static void cutBetweenBlocks() {
        sentence("Terms 4: CUTTING OFF, joined with one behind it, and with no block");
        RoomWarden x = with(1, 3, 0);
        x.want(0, 10);
        x.want(0, 10);
        x.want(0, 10);
        due("shrink(0, 5) ahead of a block", x.shrink(0, 5), 5);
        DUE.map(x, "2:1 3:5 2:1 4:4 2:1 3:10 2:1 3:10 2:1 4:30");
        due("shrink(1, 9)", x.shrink(1, 9), 1);
        DUE.map(x, "2:1 3:5 2:1 4:4 2:1 3:9 2:1 2:1 3:10 2:1 4:30");
        due("shrink(2, 9)", x.shrink(2, 9), 1);
        DUE.map(x, "2:1 3:5 2:1 4:4 2:1 3:9 2:1 2:1 3:9 2:1 4:31");
        due("give(1) joins on both sides", x.give(1), 9);
        DUE.map(x, "2:1 3:5 2:1 4:15 2:1 3:9 2:1 4:31");
    }

    private static void cutLetsPagesGo() {
        sentence("Terms 4: CUTTING OFF, whole pages go at the end of the act");
        RoomWarden x = with(3, 2, 0);
        x.want(0, 191);
        due("shrink(0, 128)", x.shrink(0, 128), 63);
        DUE.map(x, "2:1 3:128 2:1 4:62");
        due("shrink(0, 127)", x.shrink(0, 127), 1);
        DUE.map(x, "2:1 3:127 0:64");
        due("shrink(0, 62)", x.shrink(0, 62), 65);
        DUE.map(x, "2:1 3:62 2:1 0:64 0:64");
        due("grow(0, 63)", x.grow(0, 63), 1);
        due("grow(0, 64)", x.grow(0, 64), 2);
    }

    // Terms 5

    private static void eachPageIsOne() {
        sentence("Terms 5: each page of 0, 1 is one of its own");
        RoomWarden x = Due.opened(5);
        x.page(2, false);
        x.page(3, false);
        DUE.map(x, "0:64 0:64 1:64 1:64 0:64");
        DUE.map(Due.opened(0), "");
    }

    private static void eachSlotIsOne() {
        sentence("Terms 5: each slot and piece is one of its own");
        RoomWarden x = with(1, 0, 12);
        x.want(0, 1);
        x.want(0, 1);
        DUE.map(x, "2:1 3:12 3:12 4:12 4:12 4:12 5:3");
        RoomWarden y = with(1, 1, 0);
        y.want(0, 16);
        y.want(0, 16);
        y.want(0, 16);
        y.want(0, 16);
        DUE.map(y, "3:16 3:16 3:16 3:16");
        y.give(1);
        y.give(2);
        DUE.map(y, "3:16 4:16 4:16 3:16");
    }

    private static void lengthOf0IsNone() {
        sentence("Terms 5: such of length 0 are none");
        RoomWarden x = with(1, 4, 0);
        x.want(0, 0);
        x.want(0, 60);
        x.want(0, 0);
        DUE.map(x, "2:1 2:1 3:60 2:1 2:1");
        due("told(0, 3), the last head is a free piece", x.told(0, 3), 1);
        RoomWarden y = with(1, 5, 0);
        y.want(0, 0);
        y.want(0, 58);
        DUE.map(y, "2:1 6:1 6:1 2:1 6:1 3:58 6:1");
        RoomWarden z = with(1, 0, 21);
        z.want(0, 0);
        DUE.map(z, "2:1 3:21 4:21 4:21");
    }

    public static void main(String[] args) {
        sameSizeStays();
        slabStays();
        buddyStays();
        buddyIsFull();
        justEnoughBehind();
        oneTooFewBehind();
        behindInItsRow();
        overTheEdgeOfPages();
        oldOneIsThereStill();
        handleStays();
        newNumbersAre0();
        slabCut();
        buddyCut();
        rowCut();
        cutBetweenBlocks();
        cutLetsPagesGo();
        eachPageIsOne();
        eachSlotIsOne();
        lengthOf0IsNone();
        DUE.end();
    }
}
