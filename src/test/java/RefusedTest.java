import java.util.ArrayList;
import java.util.List;
import java.util.function.Function;
import java.util.function.Supplier;
import java.util.function.ToIntFunction;

/**
 * Terms 1: "an act that answers a finding changes nothing but what found() tells". Of two objects made
 * alike one gets a call that is refused; then both are asked for all that can be asked. Each question
 * has two objects of its own, as an object is used for 512 calls at most.
 */
public final class RefusedTest {
    private static final int LOW = Due.LOW;
    private static final int HIGH = Due.HIGH;

    private static int asked = 0;
    private static int wrong = 0;

    private static void check(String what, boolean holds) {
        asked++;
        if (!holds) {
            wrong++;
            System.out.println("not so: " + what);
        }
    }

    // The rooms

    /**
     * Zones of all six kinds with blocks 0 .. 5, each of its zone's number; 6 was given back, 7 (a GUARD's)
     * is spoiled. Page 6 is MISSING and none is FREE; something else is kept.
     */
    private static RoomWarden mixed() {
        RoomWarden x = new RoomWarden();
        x.open(2);
        x.zone(5, 3);
        x.want(0, 4);
        x.fill(0, 8);
        x.hold(2, 33);
        x.save();
        x.open(7);
        for (int kind = 0; kind < 6; kind++) {
            x.zone(kind, 20);
            x.want(kind, 10);
            x.fill(kind, 100 + kind);
        }
        x.want(2, 6);
        x.want(5, 6);
        x.give(6);
        x.spoil(7, true, 21);
        x.page(6, false);
        x.hold(1, 9);
        x.read(3, 0);
        return x;
    }

    /** 100 blocks and 8 zones, pages FREE yet; nothing is kept. */
    private static RoomWarden full() {
        RoomWarden x = new RoomWarden();
        x.open(5);
        for (int z = 0; z < 8; z++) {
            x.zone(z % 6, 1);
        }
        for (int s = 0; s < 100; s++) {
            x.want(1, 1);
        }
        x.fill(99, 4);
        x.read(99, 0);
        return x;
    }

    private static RoomWarden empty() {
        return new RoomWarden();
    }

    // The questions

    private static String findings(RoomWarden x) {
        StringBuilder text = new StringBuilder();
        for (int finding = -1; finding >= -9; finding--) {
            text.append(x.found(finding)).append(' ');
        }
        return text.toString();
    }

    private static String counts(RoomWarden x) {
        StringBuilder text = new StringBuilder("value " + x.value());
        for (int what = 0; what < 5; what++) {
            text.append(" count ").append(x.count(what));
        }
        for (int k = 0; k < 4; k++) {
            text.append(" held ").append(x.throwIt(k));
        }
        for (int z = 0; z < 9; z++) {
            text.append(" largest ").append(x.largest(z)).append(" told");
            for (int what = 0; what < 4; what++) {
                text.append(' ').append(x.told(z, what));
            }
        }
        return text.toString();
    }

    private static String map(RoomWarden x, int from) {
        StringBuilder text = new StringBuilder();
        for (int i = from; i < from + 40; i++) {
            for (int what = 0; what < 5; what++) {
                text.append(x.map(i, what)).append(' ');
            }
        }
        return text.toString();
    }

    private static String numbers(RoomWarden x, int from) {
        StringBuilder text = new StringBuilder();
        for (int p = from; p < from + 128; p++) {
            text.append(x.peek(p)).append(' ').append(x.value()).append(' ');
        }
        return text.toString();
    }

    private static String blocks(RoomWarden x) {
        StringBuilder text = new StringBuilder();
        int[] handles = {0, 1, 2, 3, 4, 5, 6, 7, 8, 98, 99, 100, 105, 106, 199};
        for (int i = 0; i < handles.length; i++) {
            for (int what = 0; what < 4; what++) {
                text.append(x.block(handles[i], what)).append(' ');
            }
        }
        return text.toString();
    }

    /** What comes next: the handles that are given out, and the places where. */
    private static String next(RoomWarden x) {
        StringBuilder text = new StringBuilder();
        x.give(0);
        x.page(6, true);
        for (int z = 0; z < 8; z++) {
            int h = x.want(z, 1);
            text.append(h).append(" at ").append(x.block(h, 2)).append(' ');
        }
        return text.append(x.zone(1, 0)).toString();
    }

    private static String kept(RoomWarden x) {
        return x.back() + " " + counts(x) + " " + blocks(x);
    }

    private static List<Function<RoomWarden, String>> questions() {
        List<Function<RoomWarden, String>> all = new ArrayList<>();
        all.add(RefusedTest::counts);
        all.add(RefusedTest::blocks);
        all.add(RefusedTest::next);
        all.add(RefusedTest::kept);
        all.add(x -> map(x, 0));
        all.add(x -> map(x, 40));
        all.add(x -> map(x, 80));
        all.add(x -> numbers(x, 0));
        all.add(x -> numbers(x, 128));
        all.add(x -> numbers(x, 256));
        all.add(x -> numbers(x, 384));
        return all;
    }

    private static final List<Function<RoomWarden, String>> QUESTIONS = questions();

    private static void refused(Supplier<RoomWarden> room, String call, int finding, ToIntFunction<RoomWarden> act) {
        RoomWarden x = room.get();
        RoomWarden y = room.get();
        int got = act.applyAsInt(x);
        check(call + " answered " + got + ", due is " + finding, got == finding);
        String[] before = findings(y).trim().split(" ");
        before[-finding - 1] = Integer.toString(Integer.parseInt(before[-finding - 1]) + 1);
        check(call + " is counted once", String.join(" ", before).equals(findings(x).trim()));
        for (int i = 0; i < QUESTIONS.size(); i++) {
            RoomWarden one = room.get();
            RoomWarden other = room.get();
            act.applyAsInt(one);
            String after = QUESTIONS.get(i).apply(one);
            check(call + " changes nothing, question " + i, after.equals(QUESTIONS.get(i).apply(other)));
        }
    }

    private static void inMixed(String call, int finding, ToIntFunction<RoomWarden> act) {
        refused(RefusedTest::mixed, "mixed, " + call, finding, act);
    }

    private static void inFull(String call, int finding, ToIntFunction<RoomWarden> act) {
        refused(RefusedTest::full, "full, " + call, finding, act);
    }

    private static void inEmpty(String call, int finding, ToIntFunction<RoomWarden> act) {
        refused(RefusedTest::empty, "empty, " + call, finding, act);
    }

    // The refused calls

    private static void roomCalls() {
        inMixed("open(-1)", -3, x -> x.open(-1));
        inMixed("open(41)", -1, x -> x.open(41));
        inMixed("page(-1, true)", -1, x -> x.page(-1, true));
        inMixed("page(7, false)", -1, x -> x.page(7, false));
        for (int k = 0; k < 6; k++) {
            int page = k;
            inMixed("page(" + k + ", false)", -7, x -> x.page(page, false));
            inMixed("page(" + k + ", true)", -7, x -> x.page(page, true));
        }
        inMixed("zone(6, 1)", -9, x -> x.zone(6, 1));
        inMixed("zone(0, 33)", -1, x -> x.zone(0, 33));
        inMixed("zone(0, 0)", -1, x -> x.zone(0, 0));
        inFull("zone(-1, 1)", -9, x -> x.zone(-1, 1));
        inFull("zone(0, 0)", -1, x -> x.zone(0, 0));
        inFull("zone(5, 1)", -6, x -> x.zone(5, 1));
        inEmpty("page(0, true)", -1, x -> x.page(0, true));
    }

    private static void wants() {
        inMixed("want(-1, 1)", -1, x -> x.want(-1, 1));
        inMixed("want(6, -1)", -1, x -> x.want(6, -1));
        int[] most = {20, 64, 2000, 2000, 2000, 2000};
        int[] room = {20, 32, 52, 52, 52, 39};
        for (int z = 0; z < 6; z++) {
            int zone = z;
            inMixed("want(" + z + ", -1)", -3, x -> x.want(zone, -1));
            inMixed("want(" + z + ", one more than its kind has)", -1, x -> x.want(zone, most[zone] + 1));
            if (z > 0) {
                inMixed("want(" + z + ", one more than there is)", -6, x -> x.want(zone, room[zone] + 1));
            }
            inFull("want(" + z + ", 0)", -6, x -> x.want(zone, 0));
            inFull("want(" + z + ", -1)", -3, x -> x.want(zone, -1));
            inFull("want(" + z + ", HIGH)", -1, x -> x.want(zone, HIGH));
        }
        inEmpty("want(0, 0)", -1, x -> x.want(0, 0));
    }

    private static void badHandles() {
        int[] handles = {-1, LOW, 8, 100, HIGH, 106, 6};
        for (int i = 0; i < handles.length; i++) {
            int h = handles[i];
            int finding = h == 6 ? -5 : -4;
            String of = "(" + h + ", ..)";
            inMixed("give" + of, finding, x -> x.give(h));
            inMixed("grow" + of, finding, x -> x.grow(h, 12));
            inMixed("shrink" + of, finding, x -> x.shrink(h, -1));
            inMixed("write" + of, finding, x -> x.write(h, -1, 5));
            inMixed("read" + of, finding, x -> x.read(h, -1));
            inMixed("copy" + of, finding, x -> x.copy(h, 0, 0, 0, -1));
            inMixed("copy to " + of, finding, x -> x.copy(0, 0, h, 0, -1));
            inMixed("fill" + of, finding, x -> x.fill(h, 5));
            inMixed("block" + of, finding, x -> x.block(h, 9));
            inMixed("spoil" + of, finding, x -> x.spoil(h, true, 5));
        }
        inEmpty("give(0)", -4, x -> x.give(0));
    }

    private static void spoiledBlocks() {
        inMixed("give(7)", -8, x -> x.give(7));
        inMixed("grow(7, 6)", -8, x -> x.grow(7, 6));
        inMixed("grow(7, 5)", -8, x -> x.grow(7, 5));
        inMixed("grow(7, 8)", -8, x -> x.grow(7, 8));
        inMixed("grow(7, 2001)", -8, x -> x.grow(7, 2001));
        inMixed("shrink(7, 6)", -8, x -> x.shrink(7, 6));
        inMixed("shrink(7, 0)", -8, x -> x.shrink(7, 0));
        inMixed("shrink(7, -1)", -8, x -> x.shrink(7, -1));
    }

    private static void sizesOfBlocks() {
        int[] most = {20, 64, 2000, 2000, 2000, 2000};
        for (int b = 0; b < 6; b++) {
            int h = b;
            inMixed("grow(" + b + ", 9)", -1, x -> x.grow(h, 9));
            inMixed("grow(" + b + ", -1)", -1, x -> x.grow(h, -1));
            inMixed("grow(" + b + ", one more than its kind has)", -1, x -> x.grow(h, most[h] + 1));
            if (b > 0) {
                inMixed("grow(" + b + ", 64)", -6, x -> x.grow(h, 64));
            }
            inMixed("shrink(" + b + ", -1)", -3, x -> x.shrink(h, -1));
            inMixed("shrink(" + b + ", 11)", -1, x -> x.shrink(h, 11));
        }
    }

    private static void numbersOfBlocks() {
        for (int b = 0; b < 6; b++) {
            int h = b;
            inMixed("write(" + b + ", 10, 5)", -1, x -> x.write(h, 10, 5));
            inMixed("write(" + b + ", -1, 5)", -1, x -> x.write(h, -1, 5));
            inMixed("read(" + b + ", 10)", -1, x -> x.read(h, 10));
            inMixed("read(" + b + ", -1)", -1, x -> x.read(h, -1));
            inMixed("block(" + b + ", 4)", -1, x -> x.block(h, 4));
            inMixed("copy of -1", -3, x -> x.copy(h, 0, 5 - h, 0, -1));
            inMixed("copy of 11", -1, x -> x.copy(h, 0, 5 - h, 0, 11));
            inMixed("copy from -1", -1, x -> x.copy(h, -1, 5 - h, 0, 3));
            inMixed("copy from 8", -1, x -> x.copy(h, 8, 5 - h, 0, 3));
            inMixed("copy to 8", -1, x -> x.copy(h, 0, 5 - h, 8, 3));
            inMixed("copy from HIGH", -1, x -> x.copy(h, HIGH, 5 - h, 0, HIGH));
            if (b < 5) {
                inMixed("spoil(" + b + ", true, 5)", -9, x -> x.spoil(h, true, 5));
                inMixed("spoil(" + b + ", false, 5)", -9, x -> x.spoil(h, false, 5));
            }
        }
    }

    private static void otherCalls() {
        inMixed("peek(-1)", -1, x -> x.peek(-1));
        inMixed("peek(448)", -1, x -> x.peek(448));
        inMixed("peek(384)", -2, x -> x.peek(384));
        inMixed("peek(447)", -2, x -> x.peek(447));
        inMixed("largest(6)", -1, x -> x.largest(6));
        inMixed("told(6, 0)", -1, x -> x.told(6, 0));
        inMixed("told(0, 4)", -1, x -> x.told(0, 4));
        inMixed("map(0, 5)", -1, x -> x.map(0, 5));
        inMixed("map(999, 3)", -1, x -> x.map(999, 3));
        inMixed("count(5)", -1, x -> x.count(5));
        inMixed("hold(4, 1)", -1, x -> x.hold(4, 1));
        inMixed("hold(1, 100)", -1, x -> x.hold(1, 100));
        inMixed("hold(1, -1)", -1, x -> x.hold(1, -1));
        inMixed("throwIt(4)", -1, x -> x.throwIt(4));
        inMixed("throwIt(0)", -4, x -> x.throwIt(0));
        inMixed("found(0)", -1, x -> x.found(0));
        inMixed("found(-10)", -1, x -> x.found(-10));
        inFull("back()", -4, RoomWarden::back);
        inEmpty("back()", -4, RoomWarden::back);
        inEmpty("largest(0)", -1, x -> x.largest(0));
        inEmpty("throwIt(3)", -4, x -> x.throwIt(3));
    }

    public static void main(String[] args) {
        roomCalls();
        wants();
        badHandles();
        spoiledBlocks();
        sizesOfBlocks();
        numbersOfBlocks();
        otherCalls();
        System.out.println(asked + " asked, " + wrong + " of them not so");
        if (wrong > 0) {
            System.exit(1);
        }
    }
}
