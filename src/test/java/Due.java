/** Counts the answers of a test that are not as due. */
final class Due {
    private final String test;
    private int wrong = 0;
    private int checked = 0;

    Due(String test) {
        this.test = test;
    }

    void is(String call, long got, long want) {
        checked++;
        if (got != want) {
            wrong++;
            System.out.println(test + ": " + call + " answered " + got + ", due is " + want);
        }
    }

    void holds(String what, boolean truth) {
        checked++;
        if (!truth) {
            wrong++;
            System.out.println(test + ": " + what + " does not hold");
        }
    }

    boolean failed() {
        return wrong > 0;
    }

    void finish() {
        System.out.println(test + ": " + checked + " answers looked at, " + wrong + " not as due");
        if (wrong > 0) {
            System.exit(1);
        }
    }

    /** Replaces the text of an object. */
    static void write(WornLetters x, String text) {
        x.wipe();
        for (int i = 0; i < text.length(); i++) {
            x.write(text.charAt(i));
        }
    }

    static WornLetters stone(String text) {
        WornLetters x = new WornLetters();
        write(x, text);
        x.stone();
        return x;
    }

    static int fault(String text) {
        WornLetters x = new WornLetters();
        write(x, text);
        return x.fault();
    }
}
