/** Counts and prints the answers that are not the ones that are due, and makes the objects that are asked. */
final class Due {
    static final int LOW = Integer.MIN_VALUE;
    static final int HIGH = Integer.MAX_VALUE;

    private int asked = 0;
    private int wrong = 0;
    private String part = "";

    static RoomWarden opened(int pages) {
        RoomWarden x = new RoomWarden();
        x.open(pages);
        return x;
    }

    /** An object with a zone 0 of a kind. */
    static RoomWarden with(int pages, int kind, long by) {
        RoomWarden x = opened(pages);
        x.zone(kind, by);
        return x;
    }

    void part(String name) {
        part = name;
    }

    void due(String call, long got, long want) {
        asked++;
        if (got != want) {
            wrong++;
            if (wrong <= 50) {
                System.out.println(part + ": " + call + " answered " + got + ", due is " + want);
            }
        }
    }

    /** The map in one text: each entry's kind, then its length. */
    void map(RoomWarden x, String want) {
        StringBuilder text = new StringBuilder();
        int at = 0;
        int n = x.count(4);
        for (int i = 0; i < n; i++) {
            int length = x.map(i, 1);
            due("map(" + i + ", 0) behind the one ahead of it", x.map(i, 0), at);
            at += length;
            text.append(i == 0 ? "" : " ").append(x.map(i, 2)).append(':').append(length);
        }
        due("the end of the map", at, 64L * x.count(0));
        String got = text.toString();
        if (!got.equals(want)) {
            System.out.println("map: " + got + "\n due: " + want);
        }
        due("the map", got.equals(want) ? 1 : 0, 1);
    }

    void number(RoomWarden x, int handle, int i, long want) {
        due("read(" + handle + ", " + i + ")", x.read(handle, i), 0);
        due("value() of number " + i, x.value(), want);
    }

    void at(RoomWarden x, int place, int kind, long want) {
        due("peek(" + place + ")", x.peek(place), kind);
        due("value() of place " + place, x.value(), want);
    }

    boolean isWrong() {
        return wrong > 0;
    }

    void end() {
        System.out.println(asked + " answers, " + wrong + " of them not as due");
        if (wrong > 0) {
            System.exit(1);
        }
    }
}
