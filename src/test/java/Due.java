/** Counts the answers that are not as due; ends the test with exit code 1 if there was one. */
final class Due {
    private int wrong;

    void is(String call, long got, long want) {
        if (got != want) {
            wrong++;
            System.out.println(call + " answered " + got + ", due is " + want);
        }
    }

    void same(String where, String got, String want) {
        if (!got.equals(want)) {
            wrong++;
            System.out.println(where + ": " + got + ", due is " + want);
        }
    }

    /** Feeds a whole text and reads it. */
    static int read(QuinceEnd x, String text) {
        for (int i = 0; i < text.length(); i++) {
            x.feed(text.charAt(i));
        }
        return x.kitchen();
    }

    void end() {
        System.out.println(wrong == 0 ? "all answers are as due" : wrong + " answers are not as due");
        if (wrong != 0) {
            System.exit(1);
        }
    }
}
