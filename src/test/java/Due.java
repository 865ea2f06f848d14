/** Counts and prints the answers that are not the ones due. */
final class Due {
    private static int checked = 0;
    private static int wrong = 0;

    private Due() {
    }

    static void is(String what, int got, int want) {
        note(what, got == want, got, want);
    }

    static void is(String what, boolean got, boolean want) {
        note(what, got == want, got, want);
    }

    static void is(String what, String got, String want) {
        note(what, got.equals(want), got, want);
    }

    private static void note(String what, boolean right, Object got, Object want) {
        checked++;
        if (!right) {
            wrong++;
            System.out.println(what + " answered " + got + ", due is " + want);
        }
    }

    static int wrongSoFar() {
        return wrong;
    }

    static void end(String test) {
        System.out.println(test + ": " + checked + " answers, " + wrong + " not as due");
        if (wrong != 0 || checked == 0) {
            System.exit(1);
        }
    }
}
