/** Counts and prints the answers that are not the ones that are due. */
final class Due {
    private int asked = 0;
    private int wrong = 0;
    private String part = "";

    void part(String name) {
        part = name;
    }

    void due(String call, long got, long want) {
        asked++;
        if (got != want) {
            wrong++;
            if (wrong <= 50) {
                System.out.println(part + ": " + call + " answered " + got + ", due is " + want);
            }
        }
    }

    boolean isWrong() {
        return wrong > 0;
    }

    void end() {
        System.out.println(asked + " answers, " + wrong + " of them not as due");
        if (wrong > 0) {
            System.exit(1);
        }
    }
}
