/** Counts and prints the calls whose answer is not the one that is due. */
final class Check {
    private int seen = 0;
    private int wrong = 0;

    void due(String call, long want, long got) {
        seen++;
        if (want != got) {
            wrong++;
            System.out.println(call + " answered " + got + ", due is " + want);
        }
    }

    void bad(String call, long got) {
        due(call, -1, got);
    }

    void no(String call, long got) {
        due(call, -2, got);
    }

    void end() {
        System.out.println(wrong == 0 ? seen + " answers are as due" : wrong + " of " + seen + " answers are not as due");
        if (wrong != 0) {
            System.exit(1);
        }
    }
}
