/** Counts and prints what is not as due. */
final class Due {
    private static int wrong;
    private static int told;

    private Due() {
    }

    static void is(String call, long want, long got) {
        told++;
        if (got != want) {
            wrong++;
            if (wrong <= 40) {
                System.out.println(call + " answered " + got + ", due is " + want);
            }
        }
    }

    /** The last word of a test: exit code 1, if there was a wrong answer or none at all. */
    static void end(String test) {
        System.out.println(test + ": " + told + " answers, " + wrong + " not as due");
        if (wrong != 0 || told == 0) {
            System.exit(1);
        }
    }
}
