/** Long runs of mixed calls: RoomWarden and PlainWarden must answer alike, and their maps be the same. */
public final class AgainstPlainTest {
    private static final int RUNS = 150;
    private static final int ACTS = 512;

    private final Due due = new Due();
    private final RoomWarden x = new RoomWarden();
    private final PlainWarden y = new PlainWarden();
    private final int[] handles = new int[600];
    private int handleCount = 0;
    private final int run;
    private long seed;
    private int acts = 0;

    private AgainstPlainTest(int run) {
        this.run = run;
        this.seed = run * 7919L + 12345L;
        due.part("run " + run);
    }

    private int next(int n) {
        seed = seed * 6364136223846793005L + 1442695040888963407L;
        return (int) ((seed >>> 33) % n);
    }

    private int odd() {
        int[] odd = {Integer.MIN_VALUE, Integer.MAX_VALUE, -1, -2, 2000, 2001, 2560, 100, 99, 65, 64, 63, 41, 40, 9};
        return odd[next(odd.length)];
    }

    private boolean rarely() {
        return next(25) == 0;
    }

    private int handle() {
        if (rarely()) return next(2) == 0 ? odd() : next(700);
        if (handleCount == 0) return next(3);
        for (int tries = 0; tries < 6; tries++) {
            int h = handles[next(handleCount)];
            if (sizeOf(h) >= 0) return h;
        }
        return handles[next(handleCount)];
    }

    /** Asked of both, so that both count the same findings. */
    private int sizeOf(int h) {
        int got = x.block(h, 0);
        same("block(" + h + ", 0)", got, y.block(h, 0));
        return got;
    }

    private int size() {
        if (rarely()) return odd();
        switch (next(6)) {
            case 0: return next(4);
            case 1: return next(200);
            case 2: return next(600);
            case 3: return next(33);
            default: return next(65);
        }
    }

    private int zone() {
        return rarely() ? odd() : next(Math.max(1, x.count(2)));
    }

    private void same(String call, long got, long want) {
        due.due("act " + acts + ", " + call, got, want);
    }

    private void act() {
        acts++;
        int pick = next(100);
        int h = handle();
        long v = next(1000) - 500;
        boolean b = next(2) == 0;
        if (pick < 26) {
            int z = zone();
            int n = size();
            int got = x.want(z, n);
            same("want(" + z + ", " + n + ")", got, y.want(z, n));
            if (got >= 0) handles[handleCount++] = got;
        } else if (pick < 38) {
            same("give(" + h + ")", x.give(h), y.give(h));
        } else if (pick < 52) {
            int n = rarely() ? size() : Math.max(0, sizeOf(h)) + next(next(3) == 0 ? 300 : 20);
            same("grow(" + h + ", " + n + ")", x.grow(h, n), y.grow(h, n));
        } else if (pick < 60) {
            int n = size();
            same("shrink(" + h + ", " + n + ")", x.shrink(h, n), y.shrink(h, n));
        } else if (pick < 68) {
            same("fill(" + h + ", " + v + ")", x.fill(h, v), y.fill(h, v));
        } else if (pick < 70) {
            int i = size();
            same("write(" + h + ", " + i + ", " + v + ")", x.write(h, i, v), y.write(h, i, v));
            same("read(" + h + ", " + i + ")", x.read(h, i), y.read(h, i));
        } else if (pick < 74) {
            int t = handle();
            int i = rarely() ? odd() : next(20);
            int j = rarely() ? odd() : next(20);
            int n = rarely() ? odd() : next(20);
            String call = "copy(" + h + ", " + i + ", " + t + ", " + j + ", " + n + ")";
            same(call, x.copy(h, i, t, j, n), y.copy(h, i, t, j, n));
        } else if (pick < 78) {
            int p = rarely() ? odd() : next(2600);
            same("peek(" + p + ")", x.peek(p), y.peek(p));
        } else if (pick < 82) {
            int z = zone();
            same("largest(" + z + ")", x.largest(z), y.largest(z));
        } else if (pick < 85) {
            int z = zone();
            int w = next(5);
            same("told(" + z + ", " + w + ")", x.told(z, w), y.told(z, w));
        } else if (pick < 88) {
            int k = rarely() ? odd() : next(41);
            boolean there = b || next(3) > 0;
            same("page(" + k + ", " + there + ")", x.page(k, there), y.page(k, there));
        } else if (pick < 90) {
            otherCall(h, b, v);
        } else if (pick < 92) {
            int w = next(6);
            same("block(" + h + ", " + w + ")", x.block(h, w), y.block(h, w));
        } else if (pick < 95) {
            int i = next(300);
            int w = next(6);
            same("map(" + i + ", " + w + ")", x.map(i, w), y.map(i, w));
        } else if (pick < 97) {
            int w = next(6);
            same("count(" + w + ")", x.count(w), y.count(w));
        } else {
            int f = 1 - next(12);
            same("found(" + f + ")", x.found(f), y.found(f));
        }
        same("value()", x.value(), y.value());
    }

    private void otherCall(int h, boolean b, long v) {
        int k = next(5);
        int c = next(110) - 5;
        switch (next(8)) {
            case 0: same("save()", x.save(), y.save()); break;
            case 1: same("back()", x.back(), y.back()); break;
            case 2: same("hold(" + k + ", " + c + ")", x.hold(k, c), y.hold(k, c)); break;
            case 3: same("throwIt(" + k + ")", x.throwIt(k), y.throwIt(k)); break;
            case 4: same("zone(" + (k + 1) + ", " + v + ")", x.zone(k + 1, v), y.zone(k + 1, v)); break;
            case 5: same("spoil(" + h + ", " + b + ", " + v + ")", x.spoil(h, b, v), y.spoil(h, b, v)); break;
            case 6: maybeOpen(c - 60); break;
            default: same("zone(0, " + c + ")", x.zone(0, c), y.zone(0, c)); break;
        }
    }

    /** Rarely with pages, as an object that is always new has little in it. */
    private void maybeOpen(int n) {
        if (n < 0 || n > 40 || next(6) == 0) {
            same("open(" + n + ")", x.open(n), y.open(n));
        }
    }

    private void sameMap() {
        int n = y.count(4);
        same("count(4)", x.count(4), n);
        for (int i = 0; i <= n; i++) {
            for (int w = 0; w < 5; w++) {
                same("map(" + i + ", " + w + ")", x.map(i, w), y.map(i, w));
            }
        }
        for (int p = next(7); p < 64 * y.count(0); p += 7) {
            same("peek(" + p + ")", x.peek(p), y.peek(p));
            same("value()", x.value(), y.value());
        }
    }

    private void begin() {
        int pages = run % 5 == 0 ? 40 : 1 + next(20);
        same("open(" + pages + ")", x.open(pages), y.open(pages));
        int zones = 1 + next(8);
        for (int z = 0; z < zones; z++) {
            int kind = run % 3 == 0 ? 1 + run % 5 : next(6);
            int by = 1 + next(32);
            same("zone(" + kind + ", " + by + ")", x.zone(kind, by), y.zone(kind, by));
        }
    }

    private boolean isWrong() {
        begin();
        while (acts < ACTS && !due.isWrong() && handleCount < handles.length) {
            act();
            if (next(40) == 0) sameMap();
        }
        sameMap();
        return due.isWrong();
    }

    public static void main(String[] args) {
        int runs = args.length > 0 ? Integer.parseInt(args[0]) : RUNS;
        int wrong = 0;
        for (int run = 0; run < runs && wrong < 5; run++) {
            if (new AgainstPlainTest(run).isWrong()) wrong++;
        }
        System.out.println(runs + " runs, " + wrong + " of them with differences");
        if (wrong > 0) System.exit(1);
    }
}
