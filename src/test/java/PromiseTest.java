/** Each promise by itself: ordinary inputs, the edges that the document names, and wrong inputs. */
public final class PromiseTest {
    private static final int LOW = Due.LOW;
    private static final int HIGH = Due.HIGH;
    private static final Due DUE = new Due();

    private static void due(String call, long got, long want) {
        DUE.due(call, got, want);
    }

    private static RoomWarden opened(int pages) {
        return Due.opened(pages);
    }

    private static RoomWarden with(int pages, int kind, long by) {
        return Due.with(pages, kind, by);
    }

    private static void dueMap(RoomWarden x, String want) {
        DUE.map(x, want);
    }

    private static void dueNumber(RoomWarden x, int handle, int i, long want) {
        DUE.number(x, handle, i, want);
    }

    private static void newObject() {
        DUE.part("promise 1");
        RoomWarden x = new RoomWarden();
        for (int what = 0; what < 5; what++) {
            due("count(" + what + ")", x.count(what), 0);
        }
        due("value()", x.value(), 0);
        for (int finding = -1; finding >= -9; finding--) {
            due("found(" + finding + ")", x.found(finding), 0);
        }
        due("back()", x.back(), -4);
        due("throwIt(0)", x.throwIt(0), -4);
        due("want(0, 0)", x.want(0, 0), -1);
        due("give(0)", x.give(0), -4);
        due("peek(0)", x.peek(0), -1);
        due("map(0, 0)", x.map(0, 0), -1);
        due("page(0, true)", x.page(0, true), -1);
        due("zone(2, 0)", x.zone(2, 0), 0);
        due("want(0, 0) without pages", x.want(0, 0), -6);
        due("largest(0) without pages", x.largest(0), -6);
    }

    private static void open() {
        DUE.part("promise 2");
        RoomWarden x = new RoomWarden();
        due("open(-1)", x.open(-1), -3);
        due("open(LOW)", x.open(LOW), -3);
        due("open(41)", x.open(41), -1);
        due("open(HIGH)", x.open(HIGH), -1);
        due("open(40)", x.open(40), 40);
        due("count(0)", x.count(0), 40);
        due("count(1)", x.count(1), 40);
        x.page(39, false);
        x.zone(5, 7);
        x.want(0, 5);
        x.fill(0, 9);
        x.read(0, 0);
        x.hold(1, 4);
        x.save();
        due("open(3)", x.open(3), 3);
        due("value()", x.value(), 0);
        due("count(0)", x.count(0), 3);
        due("count(1)", x.count(1), 3);
        due("count(2)", x.count(2), 0);
        due("count(3)", x.count(3), 0);
        due("block(0, 0)", x.block(0, 0), -4);
        due("throwIt(1)", x.throwIt(1), -4);
        due("peek(2)", x.peek(2), 0);
        due("value()", x.value(), 0);
        due("found(-3)", x.found(-3), 2);
        due("back()", x.back(), 1);
        due("count(0)", x.count(0), 40);
        due("throwIt(1)", x.throwIt(1), 4);
        due("open(40)", x.open(40), 40);
        due("count(1)", x.count(1), 40);
        due("zone(2, 0)", x.zone(2, 0), 0);
        due("want(0, 0) has the first handle again", x.want(0, 0), 0);
        due("open(-1)", x.open(-1), -3);
        due("count(3) after a finding", x.count(3), 1);
        due("open(0)", x.open(0), 0);
        due("count(4)", x.count(4), 0);
    }

    private static void page() {
        DUE.part("promise 3");
        RoomWarden x = with(3, 4, 0);
        due("page(-1, true)", x.page(-1, true), -1);
        due("page(3, false)", x.page(3, false), -1);
        due("page(HIGH, false)", x.page(HIGH, false), -1);
        due("page(0, true)", x.page(0, true), 0);
        due("page(0, false)", x.page(0, false), 1);
        due("page(0, false)", x.page(0, false), 0);
        due("count(1)", x.count(1), 2);
        due("want(0, 3) passes by the missing page", x.want(0, 3), 0);
        due("block(0, 2)", x.block(0, 2), 65);
        due("page(1, false)", x.page(1, false), -7);
        due("page(1, true)", x.page(1, true), -7);
        due("page(0, true)", x.page(0, true), 1);
        due("page(2, false)", x.page(2, false), 1);
        dueMap(x, "0:64 2:1 3:3 2:1 4:59 1:64");
    }

    private static void zone() {
        DUE.part("promise 4");
        RoomWarden x = opened(2);
        due("zone(-1, 1)", x.zone(-1, 1), -9);
        due("zone(6, 1)", x.zone(6, 1), -9);
        due("zone(LOW, 1)", x.zone(LOW, 1), -9);
        due("zone(0, 0)", x.zone(0, 0), -1);
        due("zone(0, 33)", x.zone(0, 33), -1);
        due("zone(0, 2^32 + 1)", x.zone(0, (1L << 32) + 1), -1);
        due("zone(0, LOWEST)", x.zone(0, Long.MIN_VALUE), -1);
        due("zone(0, 1)", x.zone(0, 1), 0);
        due("zone(0, 32)", x.zone(0, 32), 1);
        due("zone(1, -5)", x.zone(1, -5), 2);
        due("zone(2, 1000)", x.zone(2, 1000), 3);
        due("zone(3, LOWEST)", x.zone(3, Long.MIN_VALUE), 4);
        due("zone(4, 0)", x.zone(4, 0), 5);
        due("zone(5, 2^40)", x.zone(5, 1L << 40), 6);
        due("zone(5, 0)", x.zone(5, 0), 7);
        due("zone(6, 0) of nine", x.zone(6, 0), -9);
        due("zone(0, 0) of nine", x.zone(0, 0), -1);
        due("zone(1, 0) of nine", x.zone(1, 0), -6);
        due("count(2)", x.count(2), 8);
        due("want(6, 0)", x.want(6, 0), 0);
        due("peek(1)", x.peek(1), 6);
        due("value() is the whole word", x.value(), 1L << 40);
    }

    private static void wantFindings() {
        DUE.part("promise 5, findings");
        RoomWarden x = with(1, 0, 7);
        x.zone(1, 0);
        x.zone(2, 0);
        x.zone(5, 0);
        due("want(4, -1)", x.want(4, -1), -1);
        due("want(-1, 0)", x.want(-1, 0), -1);
        due("want(HIGH, 0)", x.want(HIGH, 0), -1);
        due("found(-1)", x.found(-1), 3);
        due("want(0, -1)", x.want(0, -1), -3);
        due("want(2, LOW)", x.want(2, LOW), -3);
        due("want(0, 8)", x.want(0, 8), -1);
        due("want(1, 65)", x.want(1, 65), -1);
        due("want(2, 2001)", x.want(2, 2001), -1);
        due("want(3, 2001)", x.want(3, 2001), -1);
        due("want(2, HIGH)", x.want(2, HIGH), -1);
        due("want(2, 2000)", x.want(2, 2000), -6);
        due("want(3, 62)", x.want(3, 62), -6);
        due("count(1) after findings", x.count(1), 1);
        due("want(3, 61)", x.want(3, 61), 0);
        due("want(1, 0)", x.want(1, 0), -6);
        due("want(0, 0)", x.want(0, 0), -6);
        RoomWarden z = with(40, 2, 0);
        due("want(0, 2000)", z.want(0, 2000), 0);
        due("told(0, 1)", z.told(0, 1), 32);
        RoomWarden y = with(4, 1, 0);
        for (int s = 0; s < 100; s++) {
            due("want(0, 0)", y.want(0, 0), s);
        }
        due("want(0, 0) as 100 are there", y.want(0, 0), -6);
        due("want(0, 65) as 100 are there", y.want(0, 65), -1);
        due("give(57)", y.give(57), 0);
        due("give(3)", y.give(3), 0);
        due("want(0, 1)", y.want(0, 1), 103);
        due("want(0, 1)", y.want(0, 1), 157);
    }

    private static void wantSlab() {
        DUE.part("promise 5, SLAB");
        RoomWarden x = with(3, 0, 20);
        x.page(0, false);
        due("want(0, 20)", x.want(0, 20), 0);
        due("block(0, 2)", x.block(0, 2), 65);
        due("want(0, 0)", x.want(0, 0), 1);
        due("want(0, 1)", x.want(0, 1), 2);
        due("block(2, 2)", x.block(2, 2), 105);
        x.page(0, true);
        due("want(0, 3)", x.want(0, 3), 3);
        due("block(3, 2) on the lowest free page", x.block(3, 2), 1);
        due("give(1)", x.give(1), 0);
        due("want(0, 9)", x.want(0, 9), 101);
        due("block(101, 2) in the lowest free slot", x.block(101, 2), 21);
        dueMap(x, "2:1 3:20 3:20 4:20 5:3 2:1 3:20 4:20 3:20 5:3 0:64");
        RoomWarden y = with(1, 0, 1);
        for (int s = 0; s < 63; s++) {
            due("want(0, 1)", y.want(0, 1), s);
        }
        due("want(0, 1) of a full page", y.want(0, 1), -6);
        due("count(4) without waste", y.count(4), 64);
        RoomWarden z = with(1, 0, 32);
        due("want(0, 32)", z.want(0, 32), 0);
        dueMap(z, "2:1 3:32 5:31");
    }

    private static void wantBuddy() {
        DUE.part("promise 5, BUDDY");
        RoomWarden x = with(3, 1, 0);
        due("want(0, 9)", x.want(0, 9), 0);
        dueMap(x, "3:16 4:16 4:32 0:64 0:64");
        due("want(0, 33)", x.want(0, 33), 1);
        due("block(1, 2)", x.block(1, 2), 64);
        due("want(0, 32)", x.want(0, 32), 2);
        due("block(2, 2)", x.block(2, 2), 32);
        due("want(0, 0)", x.want(0, 0), 3);
        due("block(3, 2)", x.block(3, 2), 16);
        dueMap(x, "3:16 3:1 4:1 4:2 4:4 4:8 3:32 3:64 0:64");
        due("want(0, 2) takes the least, then the lowest", x.want(0, 2), 4);
        due("block(4, 2)", x.block(4, 2), 18);
        due("want(0, 3)", x.want(0, 3), 5);
        due("block(5, 2)", x.block(5, 2), 20);
        due("give(3)", x.give(3), 0);
        dueMap(x, "3:16 4:2 3:2 3:4 4:8 3:32 3:64 0:64");
        due("want(0, 16)", x.want(0, 16), 103);
        due("block(103, 2)", x.block(103, 2), 128);
        due("give(1)", x.give(1), 33);
        due("count(1)", x.count(1), 1);
        dueMap(x, "3:16 4:2 3:2 3:4 4:8 3:32 0:64 3:16 4:16 4:32");
    }

    /** Of three pages the first has free pieces of 12, 8, 21 and 7 (heads with them) among its blocks. */
    private static RoomWarden gaps(int kind) {
        RoomWarden x = with(3, kind, 0);
        int[] sizes = {9, 11, 1, 7, 1, 20, 1};
        for (int i = 0; i < sizes.length; i++) {
            x.want(0, sizes[i]);
        }
        due("told(0, 3)", x.told(0, 3), 1);
        due("give", x.give(x.map(3, 3)), 11);
        due("give", x.give(x.map(7, 3)), 7);
        due("give", x.give(x.map(11, 3)), 20);
        dueMap(x, "2:1 3:9 2:1 4:11 2:1 3:1 2:1 4:7 2:1 3:1 2:1 4:20 2:1 3:1 2:1 4:6 0:64 0:64");
        return x;
    }

    private static void wantRows() {
        DUE.part("promise 5, rows");
        RoomWarden span = gaps(2);
        due("block of the longest", span.block(span.want(0, 3), 2), 35);
        RoomWarden best = gaps(3);
        due("block of the shortest", best.block(best.want(0, 3), 2), 58);
        due("block of the shortest", best.block(best.want(0, 3), 2), 25);
        due("block of the shortest that holds it", best.block(best.want(0, 10), 2), 11);
        RoomWarden first = gaps(4);
        due("block of the first", first.block(first.want(0, 3), 2), 11);
        due("block of the first", first.block(first.want(0, 7), 2), 15);
        due("block of the first that holds it", first.block(first.want(0, 8), 2), 35);
        RoomWarden x = gaps(2);
        int taken = x.want(0, 20);
        due("block of all of a piece", x.block(taken, 2), 35);
        due("no free piece is left of it", x.told(0, 3), 3);
        due("give", x.give(taken), 20);
        taken = x.want(0, 19);
        due("a head alone is left of it", x.told(0, 3), 4);
        due("give", x.give(taken), 19);
        due("want joins the new page with the free piece ahead of it", x.block(x.want(0, 30), 2), 58);
        due("told(0, 1)", x.told(0, 1), 2);
    }

    private static void wantPages() {
        DUE.part("promise 5, pages");
        RoomWarden x = with(6, 2, 0);
        x.page(1, false);
        due("want(0, 20)", x.want(0, 20), 0);
        due("want(0, 63)", x.want(0, 63), 1);
        due("block(1, 2)", x.block(1, 2), 129);
        due("want(0, 64)", x.want(0, 64), 2);
        due("block(2, 2) on two pages", x.block(2, 2), 193);
        due("told(0, 1)", x.told(0, 1), 4);
        dueMap(x, "2:1 3:20 2:1 4:42 1:64 2:1 3:63 2:1 3:64 2:1 4:62 0:64");
        due("want(0, 64) needs two free pages whatever it touches", x.want(0, 64), -6);
        due("want(0, 63) is joined with the piece ahead", x.want(0, 63), 3);
        due("block(3, 2)", x.block(3, 2), 258);
        dueMap(x, "2:1 3:20 2:1 4:42 1:64 2:1 3:63 2:1 3:64 2:1 3:63 2:1 4:62");
        RoomWarden y = with(4, 4, 0);
        due("want(0, 20)", y.want(0, 20), 0);
        due("want(0, 100) brings two pages, and one goes again", y.want(0, 100), 1);
        due("count(1)", y.count(1), 2);
        dueMap(y, "2:1 3:20 2:1 3:100 2:1 4:5 0:64 0:64");
        RoomWarden z = with(4, 3, 0);
        z.zone(3, 0);
        due("want(0, 40)", z.want(0, 40), 0);
        due("want(1, 63)", z.want(1, 63), 1);
        due("want(0, 63)", z.want(0, 63), 2);
        due("a row is of one zone alone", z.block(2, 2), 129);
        due("give(1)", z.give(1), 63);
        due("want(0, 50) joins on both sides", z.want(0, 50), 101);
        due("block(101, 2)", z.block(101, 2), 42);
        dueMap(z, "2:1 3:40 2:1 3:50 2:1 4:35 2:1 3:63 0:64");
    }

    /** Pieces of one length, a block between each two, so that the lowest is the one due. */
    private static void wantLowest() {
        DUE.part("promise 5, the lowest of the same length");
        for (int kind = 1; kind < 5; kind++) {
            RoomWarden x = with(1, kind, 0);
            int size = kind == 1 ? 8 : 7;
            for (int s = 0; s < 8; s++) {
                due("want(0, " + size + ")", x.want(0, size), s);
            }
            x.give(6);
            x.give(2);
            x.give(4);
            due("want(0, 7)", x.want(0, 7), 102);
            due("block(102, 2)", x.block(102, 2), kind == 1 ? 16 : 17);
            due("want(0, 7)", x.want(0, 7), 104);
            due("block(104, 2)", x.block(104, 2), kind == 1 ? 32 : 33);
        }
    }

    /** What a zone had on a page must not show when the page comes to another zone. */
    private static void pagesComeAgain() {
        DUE.part("promise 5, pages that were another zone's");
        for (int kind = 0; kind < 6; kind++) {
            RoomWarden x = with(1, kind, 1);
            x.zone(0, 20);
            x.zone(1, 0);
            int given = 0;
            for (int h = x.want(0, 1); h >= 0; h = x.want(0, 1)) {
                x.write(h, 0, 5);
                given++;
            }
            for (int s = 0; s < given; s++) {
                due("give(" + s + ")", x.give(s), 1);
            }
            dueMap(x, "0:64");
            int h = x.want(1, 20);
            dueMap(x, "2:1 3:20 4:20 4:20 5:3");
            dueNumber(x, h, 19, 0);
            x.give(h);
            h = x.want(2, 17);
            dueMap(x, "3:32 4:32");
            x.give(h);
            dueMap(x, "0:64");
        }
        RoomWarden y = with(1, 4, 0);
        y.zone(0, 20);
        y.want(0, 60);
        due("grow(0, 62)", y.grow(0, 62), 1);
        y.give(0);
        y.want(1, 1);
        dueMap(y, "2:1 3:20 4:20 4:20 5:3");
    }

    /** The last place of the last page that there can be. */
    private static void lastPlace() {
        DUE.part("the last place");
        for (int kind = 0; kind < 6; kind++) {
            RoomWarden x = with(40, kind, 1);
            for (int k = 0; k < 39; k++) {
                x.page(k, false);
            }
            int size = x.largest(0);
            int h = 0;
            for (int s = 0; s < (kind == 0 ? 63 : 1); s++) {
                h = x.want(0, size);
            }
            due("fill", x.fill(h, 11), size);
            due("the place of its last number", x.block(h, 2) + size - 1, kind == 5 ? 2558 : 2559);
            dueNumber(x, h, size - 1, 11);
            due("peek(2559)", x.peek(2559), kind == 5 ? 6 : 3);
            due("value()", x.value(), kind == 5 ? 1 : 11);
            due("grow", x.grow(h, size + 1), kind < 2 ? -1 : -6);
            due("peek(2560)", x.peek(2560), -1);
            due("give", x.give(h), size);
            due("count(1)", x.count(1), kind == 0 ? 0 : 1);
        }
    }

    private static void give() {
        DUE.part("promise 6");
        RoomWarden x = with(3, 5, 42);
        due("give(-1)", x.give(-1), -4);
        due("give(0)", x.give(0), -4);
        due("give(HIGH)", x.give(HIGH), -4);
        due("want(0, 4)", x.want(0, 4), 0);
        due("want(0, 5)", x.want(0, 5), 1);
        due("want(0, 6)", x.want(0, 6), 2);
        due("give(100)", x.give(100), -4);
        x.fill(1, 8);
        x.spoil(1, false, 41);
        due("give(1)", x.give(1), -8);
        x.spoil(1, false, 42);
        x.spoil(1, true, 41);
        due("give(1)", x.give(1), -8);
        due("read(1, 4)", x.read(1, 4), 0);
        x.spoil(1, true, 42);
        due("give(1)", x.give(1), 5);
        due("give(1)", x.give(1), -5);
        for (int p = 7; p < 15; p++) {
            due("peek(" + p + ")", x.peek(p), p == 7 ? 2 : 4);
            due("value() of what is free", x.value(), 0);
        }
        due("want(0, 5)", x.want(0, 5), 101);
        dueNumber(x, 101, 0, 0);
        due("give(1)", x.give(1), -5);
        due("give(201)", x.give(201), -4);
        due("give(101)", x.give(101), 5);
        due("give(0)", x.give(0), 4);
        due("give(2)", x.give(2), 6);
        dueMap(x, "0:64 0:64 0:64");
        RoomWarden y = with(5, 2, 0);
        due("want(0, 30)", y.want(0, 30), 0);
        due("want(0, 200)", y.want(0, 200), 1);
        due("want(0, 5)", y.want(0, 5), 2);
        due("want(0, 1)", y.want(0, 1), 3);
        due("give(1) lets whole pages go, on both sides a piece stays", y.give(1), 200);
        dueMap(y, "2:1 3:30 2:1 4:32 0:64 0:64 2:1 4:39 2:1 3:5 2:1 3:1 2:1 4:15 0:64");
        due("give(2)", y.give(2), 5);
        due("told(0, 3)", y.told(0, 3), 3);
        RoomWarden z = with(1, 1, 0);
        z.want(0, 16);
        z.want(0, 16);
        z.want(0, 16);
        due("give(1)", z.give(1), 16);
        dueMap(z, "3:16 4:16 3:16 4:16");
        due("give(2)", z.give(2), 16);
        dueMap(z, "3:16 4:16 4:32");
        due("give(0)", z.give(0), 16);
        dueMap(z, "0:64");
    }

    private static void growFindings() {
        DUE.part("promise 7, findings");
        RoomWarden x = with(2, 5, 1);
        due("grow(-1, 0)", x.grow(-1, 0), -4);
        due("grow(0, 0)", x.grow(0, 0), -4);
        x.want(0, 10);
        x.spoil(0, false, 2);
        due("grow(0, 10)", x.grow(0, 10), -8);
        due("grow(0, 9)", x.grow(0, 9), -8);
        x.spoil(0, false, 1);
        due("grow(0, 9)", x.grow(0, 9), -1);
        due("grow(0, LOW)", x.grow(0, LOW), -1);
        due("grow(0, 2001)", x.grow(0, 2001), -1);
        due("grow(0, HIGH)", x.grow(0, HIGH), -1);
        due("grow(0, 10)", x.grow(0, 10), 1);
        due("grow(0, 62) needs more than one page", x.grow(0, 62), -6);
        dueMap(x, "2:1 6:1 3:10 6:1 2:1 4:50 0:64");
        x.give(0);
        due("grow(0, 11)", x.grow(0, 11), -5);
        RoomWarden y = with(1, 0, 5);
        y.zone(1, 0);
        y.want(0, 2);
        due("grow(0, 6)", y.grow(0, 6), -1);
        due("grow(0, 5)", y.grow(0, 5), 1);
        due("block(0, 0)", y.block(0, 0), 5);
        dueNumber(y, 0, 4, 0);
        y.give(0);
        y.want(1, 32);
        y.want(1, 3);
        due("grow(100, 33)", y.grow(100, 33), -6);
        due("grow(100, 65)", y.grow(100, 65), -1);
        due("grow(1, 4)", y.grow(1, 4), 1);
        due("grow(1, 32)", y.grow(1, 32), -6);
    }

    private static void growRows() {
        DUE.part("promise 7, rows");
        RoomWarden x = with(3, 4, 0);
        x.want(0, 10);
        x.want(0, 5);
        x.want(0, 20);
        x.fill(0, 7);
        x.fill(2, 6);
        x.give(1);
        due("grow(0, 15) leaves a head alone", x.grow(0, 15), 1);
        dueMap(x, "2:1 3:15 2:1 2:1 3:20 2:1 4:25 0:64 0:64");
        due("grow(0, 16) takes all", x.grow(0, 16), 1);
        dueMap(x, "2:1 3:16 2:1 3:20 2:1 4:25 0:64 0:64");
        dueNumber(x, 0, 9, 7);
        dueNumber(x, 0, 10, 0);
        dueNumber(x, 2, 0, 6);
        due("grow(0, 17) is copied", x.grow(0, 17), 2);
        dueMap(x, "2:1 4:16 2:1 3:20 2:1 3:17 2:1 4:7 0:64 0:64");
        dueNumber(x, 0, 9, 7);
        dueNumber(x, 0, 16, 0);
        due("peek(1)", x.peek(1), 4);
        due("value() where it was", x.value(), 0);
        due("grow(0, 40) brings a page, and what it had is free", x.grow(0, 40), 2);
        dueMap(x, "2:1 4:16 2:1 3:20 2:1 4:17 2:1 3:40 2:1 4:30 0:64");
        due("count(3)", x.count(3), 2);
        due("want(0, 0) has a new handle yet", x.want(0, 0), 101);
        RoomWarden y = with(4, 2, 0);
        y.want(0, 63);
        y.fill(0, 3);
        due("grow(0, 64) does not take the free page behind", y.grow(0, 64), 2);
        due("block(0, 2)", y.block(0, 2), 65);
        dueMap(y, "0:64 2:1 3:64 2:1 4:62 0:64");
        dueNumber(y, 0, 62, 3);
        RoomWarden z = with(2, 5, 9);
        z.want(0, 2);
        z.fill(0, 5);
        due("grow(0, 6)", z.grow(0, 6), 1);
        dueMap(z, "2:1 6:1 3:6 6:1 2:1 4:54 0:64");
        dueNumber(z, 0, 1, 5);
        dueNumber(z, 0, 2, 0);
        due("block(0, 3)", z.block(0, 3), 0);
        z.want(0, 1);
        due("grow(0, 7)", z.grow(0, 7), 2);
        due("block(0, 2)", z.block(0, 2), 15);
        due("block(0, 3)", z.block(0, 3), 0);
        due("peek(1)", z.peek(1), 4);
        due("value() of the old guard word", z.value(), 0);
        RoomWarden full = with(3, 1, 0);
        for (int s = 0; s < 100; s++) {
            full.want(0, 1);
        }
        due("grow(0, 2) as 100 are there", full.grow(0, 2), 2);
        due("count(3)", full.count(3), 100);
    }

    private static void growBuddy() {
        DUE.part("promise 7, BUDDY");
        RoomWarden x = with(2, 1, 0);
        x.want(0, 5);
        x.fill(0, 4);
        due("grow(0, 8)", x.grow(0, 8), 1);
        dueNumber(x, 0, 5, 0);
        due("grow(0, 9) is copied though what lies behind is free", x.grow(0, 9), 2);
        due("block(0, 2)", x.block(0, 2), 16);
        dueNumber(x, 0, 4, 4);
        dueNumber(x, 0, 8, 0);
        dueMap(x, "4:16 3:16 4:32 0:64");
        due("grow(0, 33)", x.grow(0, 33), 2);
        dueMap(x, "0:64 3:64");
        due("grow(0, 64)", x.grow(0, 64), 1);
        due("block(0, 0)", x.block(0, 0), 64);
    }

    private static void shrink() {
        DUE.part("promise 8");
        RoomWarden x = with(4, 2, 0);
        due("shrink(-1, -1)", x.shrink(-1, -1), -4);
        due("shrink(0, 0)", x.shrink(0, 0), -4);
        x.want(0, 200);
        x.fill(0, 1);
        due("shrink(0, -1)", x.shrink(0, -1), -3);
        due("shrink(0, LOW)", x.shrink(0, LOW), -3);
        due("shrink(0, 201)", x.shrink(0, 201), -1);
        due("shrink(0, HIGH)", x.shrink(0, HIGH), -1);
        due("shrink(0, 200)", x.shrink(0, 200), 0);
        due("shrink(0, 190)", x.shrink(0, 190), 10);
        dueMap(x, "2:1 3:190 2:1 0:64");
        due("shrink(0, 62)", x.shrink(0, 62), 128);
        dueMap(x, "2:1 3:62 2:1 0:64 0:64 0:64");
        due("grow(0, 63)", x.grow(0, 63), 1);
        dueNumber(x, 0, 62, 0);
        dueNumber(x, 0, 61, 1);
        due("shrink(0, 0)", x.shrink(0, 0), 63);
        dueMap(x, "2:1 2:1 4:62 0:64 0:64 0:64");
        x.give(0);
        due("shrink(0, 0)", x.shrink(0, 0), -5);
        RoomWarden y = with(1, 1, 0);
        y.want(0, 64);
        y.fill(0, 3);
        due("shrink(0, 33)", y.shrink(0, 33), 31);
        dueMap(y, "3:64");
        due("shrink(0, 32)", y.shrink(0, 32), 1);
        dueMap(y, "3:32 4:32");
        due("shrink(0, 3)", y.shrink(0, 3), 29);
        dueMap(y, "3:4 4:4 4:8 4:16 4:32");
        due("shrink(0, 0)", y.shrink(0, 0), 3);
        dueMap(y, "3:1 4:1 4:2 4:4 4:8 4:16 4:32");
        due("peek(0)", y.peek(0), 3);
        due("value() of the piece of a block of size 0", y.value(), 0);
        RoomWarden z = with(1, 5, 77);
        z.want(0, 10);
        z.want(0, 1);
        z.fill(0, 6);
        z.spoil(0, true, 0);
        due("shrink(0, -1)", z.shrink(0, -1), -8);
        z.spoil(0, true, 77);
        due("shrink(0, 8)", z.shrink(0, 8), 2);
        dueMap(z, "2:1 6:1 3:8 6:1 2:1 4:1 2:1 6:1 3:1 6:1 2:1 4:46");
        due("block(0, 3)", z.block(0, 3), 0);
        due("peek(10)", z.peek(10), 6);
        due("value() of the word that moved", z.value(), 77);
        due("peek(12)", z.peek(12), 4);
        due("value() where the word was", z.value(), 0);
        due("shrink(0, 7) joins with what is free behind", z.shrink(0, 7), 1);
        due("told(0, 3)", z.told(0, 3), 2);
        RoomWarden slab = with(1, 0, 9);
        slab.want(0, 9);
        slab.fill(0, 2);
        due("shrink(0, 4)", slab.shrink(0, 4), 5);
        due("map(1, 1)", slab.map(1, 1), 9);
        due("peek(5)", slab.peek(5), 3);
        due("value() of what was cut off", slab.value(), 0);
        due("grow(0, 5)", slab.grow(0, 5), 1);
        dueNumber(slab, 0, 3, 2);
        dueNumber(slab, 0, 4, 0);
    }

    private static void writeReadValue() {
        DUE.part("promises 9, 10, 11");
        for (int kind = 0; kind < 6; kind++) {
            RoomWarden x = with(2, kind, 8);
            due("write(0, 0, 1)", x.write(0, 0, 1), -4);
            due("read(0, 0)", x.read(0, 0), -4);
            x.want(0, 8);
            x.want(0, 8);
            due("write(0, 0, LOWEST)", x.write(0, 0, Long.MIN_VALUE), 0);
            due("write(0, 7, 70)", x.write(0, 7, 70), 0);
            due("write(0, 8, 80)", x.write(0, 8, 80), -1);
            due("write(0, -1, 80)", x.write(0, -1, 80), -1);
            due("write(0, HIGH, 80)", x.write(0, HIGH, 80), -1);
            due("write(-1, 0, 80)", x.write(-1, 0, 80), -4);
            due("write(100, 0, 80)", x.write(100, 0, 80), -4);
            due("value()", x.value(), 0);
            dueNumber(x, 0, 0, Long.MIN_VALUE);
            dueNumber(x, 0, 7, 70);
            due("read(0, 8)", x.read(0, 8), -1);
            due("read(0, -1)", x.read(0, -1), -1);
            due("read(0, LOW)", x.read(0, LOW), -1);
            due("read(-1, 0)", x.read(-1, 0), -4);
            due("value() after findings", x.value(), 70);
            dueNumber(x, 1, 0, 0);
            due("block(0, 3)", x.block(0, 3), 0);
            x.give(0);
            due("write(0, 0, 1)", x.write(0, 0, 1), -5);
            due("read(0, 0)", x.read(0, 0), -5);
        }
    }

    private static void copy() {
        DUE.part("promise 12");
        RoomWarden x = with(2, 4, 0);
        x.zone(1, 0);
        x.want(0, 6);
        x.want(1, 4);
        x.want(0, 0);
        for (int i = 0; i < 6; i++) {
            x.write(0, i, 10 + i);
        }
        due("copy to another", x.copy(0, 2, 1, 0, 4), 4);
        dueNumber(x, 1, 0, 12);
        dueNumber(x, 1, 3, 15);
        due("copy upward in itself", x.copy(0, 0, 0, 1, 5), 5);
        dueNumber(x, 0, 0, 10);
        dueNumber(x, 0, 1, 10);
        dueNumber(x, 0, 5, 14);
        due("copy downward in itself", x.copy(0, 1, 0, 0, 5), 5);
        dueNumber(x, 0, 0, 10);
        dueNumber(x, 0, 4, 14);
        dueNumber(x, 0, 5, 14);
        due("from is asked first", x.copy(-1, 0, 100, 0, -1), -4);
        x.want(0, 1);
        x.give(3);
        due("OLD of from", x.copy(3, 0, -1, 0, -1), -5);
        due("NOTHING of to", x.copy(0, 0, -1, 0, -1), -4);
        due("OLD of to", x.copy(0, 0, 3, 0, -1), -5);
        due("SIZE", x.copy(0, -1, 1, 99, -1), -3);
        due("SIZE", x.copy(0, 0, 1, 0, LOW), -3);
        due("i below 0", x.copy(0, -1, 1, 0, 1), -1);
        due("j below 0", x.copy(0, 0, 1, -1, 1), -1);
        due("i beyond", x.copy(0, 5, 1, 0, 2), -1);
        due("j beyond", x.copy(0, 0, 1, 3, 2), -1);
        due("n beyond", x.copy(0, 0, 1, 0, HIGH), -1);
        due("i + n wraps", x.copy(0, HIGH, 1, 0, HIGH), -1);
        due("j + n wraps", x.copy(0, 0, 1, HIGH, 1), -1);
        due("none at the sizes", x.copy(0, 6, 1, 4, 0), 0);
        due("none of an empty one", x.copy(2, 0, 2, 0, 0), 0);
        due("none beyond", x.copy(0, 7, 1, 4, 0), -1);
        due("none beyond", x.copy(0, 6, 1, 5, 0), -1);
        due("none below", x.copy(0, -1, 1, 0, 0), -1);
        due("one of an empty one", x.copy(2, 0, 0, 0, 1), -1);
        dueNumber(x, 1, 0, 12);
    }

    private static void fill() {
        DUE.part("promise 13");
        for (int kind = 0; kind < 6; kind++) {
            RoomWarden x = with(2, kind, 8);
            due("fill(0, 1)", x.fill(0, 1), -4);
            x.want(0, 6);
            x.want(0, 0);
            x.want(0, 5);
            due("fill(0, -3)", x.fill(0, -3), 6);
            due("fill(1, 4)", x.fill(1, 4), 0);
            due("fill(-1, 4)", x.fill(-1, 4), -4);
            dueNumber(x, 0, 0, -3);
            dueNumber(x, 0, 5, -3);
            dueNumber(x, 2, 0, 0);
            int filled = 0;
            for (int p = 0; p < 128; p++) {
                x.peek(p);
                filled += x.value() == -3 ? 1 : 0;
                due("value() of a 4 that has no place", x.value() == 4 ? 1 : 0, 0);
            }
            due("numbers filled", filled, 6);
            due("block(0, 3)", x.block(0, 3), 0);
            x.give(0);
            due("fill(0, 1)", x.fill(0, 1), -5);
        }
    }

    private static void block() {
        DUE.part("promise 14");
        RoomWarden x = with(6, 0, 5);
        x.zone(1, 0);
        x.zone(2, 0);
        x.zone(5, -1);
        due("block(0, 9)", x.block(0, 9), -4);
        int[] first = {1, 64, 129, 194};
        for (int z = 0; z < 4; z++) {
            due("want", x.want(z, z), z);
            due("block(.., 0)", x.block(z, 0), z);
            due("block(.., 1)", x.block(z, 1), z);
            due("block(.., 2)", x.block(z, 2), first[z]);
            due("block(.., 3)", x.block(z, 3), 0);
            due("block(.., 4)", x.block(z, 4), -1);
            due("block(.., -1)", x.block(z, -1), -1);
        }
        x.spoil(3, false, 0);
        due("block(3, 3)", x.block(3, 3), 1);
        x.spoil(3, true, 0);
        due("block(3, 3)", x.block(3, 3), 3);
        x.spoil(3, false, -1);
        due("block(3, 3)", x.block(3, 3), 2);
        x.give(0);
        due("block(0, 9)", x.block(0, 9), -5);
        RoomWarden y = with(1, 2, 0);
        y.want(0, 62);
        y.want(0, 0);
        due("where number 0 would be", y.block(1, 2), 64);
    }

    private static void spoil() {
        DUE.part("promise 15");
        RoomWarden x = with(3, 5, 6);
        x.zone(4, 0);
        x.zone(1, 0);
        due("spoil(0, true, 1)", x.spoil(0, true, 1), -4);
        x.want(0, 0);
        x.want(1, 3);
        x.want(2, 3);
        due("spoil(1, false, 1)", x.spoil(1, false, 1), -9);
        due("spoil(2, true, 1)", x.spoil(2, true, 1), -9);
        due("spoil(0, false, 1)", x.spoil(0, false, 1), 0);
        due("spoil(0, true, 2)", x.spoil(0, true, 2), 0);
        due("peek(1)", x.peek(1), 6);
        due("value()", x.value(), 1);
        due("peek(2)", x.peek(2), 6);
        due("value()", x.value(), 2);
        due("spoil(0, false, 6)", x.spoil(0, false, 6), 0);
        due("spoil(0, true, 6)", x.spoil(0, true, 6), 0);
        due("give(0)", x.give(0), 0);
        due("spoil(0, true, 6)", x.spoil(0, true, 6), -5);
        due("spoil(-1, true, 6)", x.spoil(-1, true, 6), -4);
    }

    private static void peek() {
        DUE.part("promise 16");
        RoomWarden x = with(5, 0, 30);
        x.zone(5, 50);
        x.zone(1, 0);
        x.want(0, 2);
        x.want(1, 1);
        x.want(2, 3);
        x.fill(0, 20);
        x.fill(1, 30);
        x.page(4, false);
        int[] places = {0, 1, 2, 3, 30, 31, 60, 61, 63, 64, 65, 66, 67, 68, 69, 127, 128, 131, 132, 192, 255};
        int[] kinds = {2, 3, 3, 3, 3, 4, 4, 5, 5, 2, 6, 3, 6, 2, 4, 4, 3, 3, 4, 0, 0};
        long[] values = {0, 20, 20, 0, 0, 0, 0, 0, 0, 0, 50, 30, 50, 0, 0, 0, 0, 0, 0, 0, 0};
        for (int i = 0; i < places.length; i++) {
            due("peek(" + places[i] + ")", x.peek(places[i]), kinds[i]);
            due("value() at " + places[i], x.value(), values[i]);
        }
        x.peek(65);
        due("peek(256)", x.peek(256), -2);
        due("peek(319)", x.peek(319), -2);
        due("peek(320)", x.peek(320), -1);
        due("peek(-1)", x.peek(-1), -1);
        due("peek(HIGH)", x.peek(HIGH), -1);
        due("peek(LOW)", x.peek(LOW), -1);
        due("value() after findings", x.value(), 50);
    }

    private static void largest() {
        DUE.part("promise 17");
        RoomWarden x = with(4, 0, 31);
        x.zone(1, 0);
        x.zone(2, 0);
        x.zone(5, 0);
        due("largest(-1)", x.largest(-1), -1);
        due("largest(4)", x.largest(4), -1);
        due("largest(0)", x.largest(0), 31);
        due("largest(1)", x.largest(1), 64);
        due("largest(2)", x.largest(2), 255);
        due("largest(3)", x.largest(3), 253);
        x.want(0, 1);
        x.want(1, 9);
        x.want(3, 10);
        x.want(2, 62);
        due("largest(0)", x.largest(0), 31);
        due("largest(1)", x.largest(1), 32);
        due("largest(2) of a head alone", x.largest(2), 0);
        due("largest(3)", x.largest(3), 48);
        due("want(3, 49)", x.want(3, 49), -6);
        due("want(3, 46)", x.want(3, 46), 4);
        due("largest(3) of two numbers, a guard word too few", x.largest(3), -6);
        due("want(3, 0)", x.want(3, 0), -6);
        due("want(2, 0)", x.want(2, 0), 5);
        due("largest(2)", x.largest(2), -6);
        due("want(0, 31)", x.want(0, 31), 6);
        due("largest(0)", x.largest(0), -6);
        due("want(1, 32)", x.want(1, 32), 7);
        due("largest(1)", x.largest(1), 16);
        due("want(1, 16)", x.want(1, 16), 8);
        due("largest(1)", x.largest(1), -6);
        RoomWarden y = with(40, 2, 0);
        y.zone(5, 0);
        due("largest(0) of 40 pages", y.largest(0), 2000);
        due("largest(1) of 40 pages", y.largest(1), 2000);
        y.page(31, false);
        due("largest(0) of 31 pages", y.largest(0), 1983);
        due("largest(1) of 31 pages", y.largest(1), 1981);
        RoomWarden z = with(2, 1, 0);
        for (int s = 0; s < 100; s++) {
            z.want(0, 1);
        }
        due("largest(0) as if there were a handle", z.largest(0), 16);
    }

    private static void told() {
        DUE.part("promise 18");
        RoomWarden x = with(6, 0, 15);
        x.zone(1, 0);
        x.zone(4, 0);
        due("told(-1, 0)", x.told(-1, 0), -1);
        due("told(3, 0)", x.told(3, 0), -1);
        due("told(0, 4)", x.told(0, 4), -1);
        due("told(0, -1)", x.told(0, -1), -1);
        for (int s = 0; s < 5; s++) {
            x.want(0, 3);
        }
        x.want(1, 3);
        x.want(2, 62);
        due("told(2, 3) of a head alone", x.told(2, 3), 1);
        x.want(2, 70);
        x.want(2, 5);
        x.give(7);
        int[][] due = {{0, 2, 5, 3}, {1, 1, 1, 4}, {4, 2, 2, 3}};
        for (int z = 0; z < 3; z++) {
            for (int what = 0; what < 4; what++) {
                due("told(" + z + ", " + what + ")", x.told(z, what), due[z][what]);
            }
        }
    }

    private static void map() {
        DUE.part("promise 19");
        RoomWarden x = with(6, 0, 20);
        x.zone(1, 0);
        x.zone(5, 3);
        x.zone(2, 0);
        x.page(4, false);
        x.want(0, 5);
        x.want(1, 40);
        x.want(2, 0);
        x.give(2);
        x.want(2, 0);
        x.want(3, 0);
        x.want(3, 0);
        dueMap(x, "2:1 3:20 4:20 4:20 5:3 3:64 2:1 6:1 6:1 2:1 4:60 2:1 2:1 2:1 4:61 1:64 0:64");
        int[] handles = {-1, 0, -1, -1, -1, 1, -1, 102, 102, -1, -1, -1, -1, -1, -1, -1, -1};
        int[] zones = {0, 0, 0, 0, 0, 1, 2, 2, 2, 2, 2, 3, 3, 3, 3, -1, -1};
        for (int i = 0; i < handles.length; i++) {
            due("map(" + i + ", 3)", x.map(i, 3), handles[i]);
            due("map(" + i + ", 4)", x.map(i, 4), zones[i]);
        }
        due("found(-1): -1 is no finding there", x.found(-1), 0);
        due("map(17, 0)", x.map(17, 0), -1);
        due("map(-1, 0)", x.map(-1, 0), -1);
        due("map(HIGH, 0)", x.map(HIGH, 0), -1);
        due("map(0, 5)", x.map(0, 5), -1);
        due("map(0, -1)", x.map(0, -1), -1);
        due("found(-1)", x.found(-1), 5);
    }

    private static void count() {
        DUE.part("promise 20");
        RoomWarden x = with(7, 2, 0);
        x.zone(3, 0);
        x.page(6, false);
        x.want(0, 100);
        x.want(1, 3);
        x.want(1, 4);
        int[] due = {7, 3, 2, 3, 4 + 6 + 3 + 1};
        for (int what = 0; what < 5; what++) {
            due("count(" + what + ")", x.count(what), due[what]);
        }
        due("count(5)", x.count(5), -1);
        due("count(-1)", x.count(-1), -1);
        due("count(LOW)", x.count(LOW), -1);
    }

    private static void saveAndBack() {
        DUE.part("promises 21, 22");
        RoomWarden x = new RoomWarden();
        due("back()", x.back(), -4);
        due("save()", x.save(), 1);
        x.open(3);
        x.zone(5, 8);
        x.want(0, 4);
        due("back() to a new object", x.back(), 1);
        due("count(0)", x.count(0), 0);
        due("count(2)", x.count(2), 0);
        due("block(0, 0)", x.block(0, 0), -4);
        x.open(3);
        x.zone(5, 8);
        x.want(0, 4);
        x.want(0, 4);
        x.give(1);
        x.fill(0, 6);
        x.hold(2, 50);
        x.page(2, false);
        x.spoil(0, true, 1);
        due("save() in place of that", x.save(), 1);
        for (int again = 0; again < 2; again++) {
            x.spoil(0, true, 8);
            x.fill(0, 7);
            x.zone(1, 0);
            due("want(0, 1)", x.want(0, 1), 101);
            x.want(1, 1);
            x.give(0);
            x.hold(2, 0);
            x.hold(3, 5);
            x.page(2, true);
            x.read(101, 0);
            x.write(101, 0, 99);
            x.read(101, 0);
            due("back()", x.back(), 1);
            due("value() is not kept", x.value(), 99);
            dueMap(x, "2:1 6:1 3:4 6:1 2:1 4:56 0:64 1:64");
            dueNumber(x, 0, 3, 6);
            due("block(0, 3)", x.block(0, 3), 2);
            due("give(0)", x.give(0), -8);
            due("give(101)", x.give(101), -4);
            due("give(1)", x.give(1), -5);
            due("count(2)", x.count(2), 1);
            due("throwIt(2)", x.throwIt(2), 50);
            due("throwIt(3)", x.throwIt(3), -4);
            due("found(-8) goes on", x.found(-8), again + 1);
        }
    }

    private static void holdAndThrow() {
        DUE.part("promises 23, 24");
        RoomWarden x = new RoomWarden();
        due("hold(-1, 100)", x.hold(-1, 100), -1);
        due("hold(4, 1)", x.hold(4, 1), -1);
        due("hold(0, -1)", x.hold(0, -1), -1);
        due("hold(0, 100)", x.hold(0, 100), -1);
        due("hold(LOW, HIGH)", x.hold(LOW, HIGH), -1);
        for (int k = 0; k < 4; k++) {
            due("throwIt(" + k + ")", x.throwIt(k), -4);
            due("hold(" + k + ", 99)", x.hold(k, 99), 0);
            due("hold(" + k + ", 1 + k)", x.hold(k, 1 + k), 99);
        }
        for (int k = 0; k < 4; k++) {
            due("throwIt(" + k + ")", x.throwIt(k), 1 + k);
            due("throwIt(" + k + ")", x.throwIt(k), 1 + k);
            due("hold(" + k + ", 0)", x.hold(k, 0), 1 + k);
            due("throwIt(" + k + ")", x.throwIt(k), -4);
        }
        due("throwIt(-1)", x.throwIt(-1), -1);
        due("throwIt(4)", x.throwIt(4), -1);
        due("found(-1)", x.found(-1), 7);
        due("found(-4)", x.found(-4), 8);
    }

    private static void found() {
        DUE.part("promise 25");
        RoomWarden x = new RoomWarden();
        due("found(0)", x.found(0), -1);
        due("found(-10)", x.found(-10), -1);
        due("found(LOW)", x.found(LOW), -1);
        due("found(HIGH)", x.found(HIGH), -1);
        due("found(-1)", x.found(-1), 4);
        x.open(2);
        x.zone(5, 0);
        x.zone(4, 0);
        x.page(1, false);
        due("peek(64)", x.peek(64), -2);
        due("want(0, -1)", x.want(0, -1), -3);
        due("give(0)", x.give(0), -4);
        x.want(0, 1);
        x.spoil(0, true, 1);
        due("page(0, true)", x.page(0, true), -7);
        due("give(0)", x.give(0), -8);
        x.spoil(0, true, 0);
        x.give(0);
        due("give(0)", x.give(0), -5);
        due("want(1, 64)", x.want(1, 64), -6);
        due("zone(9, 0)", x.zone(9, 0), -9);
        x.save();
        x.open(1);
        x.back();
        for (int finding = -2; finding >= -9; finding--) {
            due("found(" + finding + ")", x.found(finding), 1);
        }
        due("found(-1)", x.found(-1), 4);
    }

    public static void main(String[] args) {
        newObject();
        open();
        page();
        zone();
        wantFindings();
        wantSlab();
        wantBuddy();
        wantRows();
        wantPages();
        wantLowest();
        pagesComeAgain();
        lastPlace();
        give();
        growFindings();
        growRows();
        growBuddy();
        shrink();
        writeReadValue();
        copy();
        fill();
        block();
        spoil();
        peek();
        largest();
        told();
        map();
        count();
        saveAndBack();
        holdAndThrow();
        found();
        DUE.end();
    }
}
