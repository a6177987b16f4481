/** Counts and prints the answers that are not the ones that are due. */
final class Due {
    private int wrong = 0;
    private int asked = 0;

    void is(String call, long got, long want) {
        asked++;
        if (got != want) {
            wrong++;
            if (wrong <= 40) {
                System.out.println(call + " answered " + got + ", due is " + want);
            }
        }
    }

    void is(String call, boolean got, boolean want) {
        is(call, got ? 1 : 0, want ? 1 : 0);
    }

    int wrong() {
        return wrong;
    }

    void end() {
        System.out.println(asked + " answers, " + wrong + " of them not as due");
        if (wrong != 0 || asked == 0) {
            System.exit(1);
        }
    }
}
