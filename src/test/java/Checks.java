/** Counts what a test has asked and what was not answered as due. */
final class Checks {
    private int asked;
    private int wrong;

    void due(String what, long got, long want) {
        asked++;
        if (got != want) {
            wrong++;
            System.out.println(what + " answered " + got + ", due is " + want);
        }
    }

    void dueTrue(String what, boolean holds) {
        due(what, holds ? 1 : 0, 1);
    }

    /** Ends the program with 1 if anything was wrong, or if nothing was asked. */
    void end() {
        System.out.println(asked + " answers looked at, " + wrong + " not as due");
        if (wrong != 0 || asked == 0) {
            System.exit(1);
        }
    }

    /** Feeds a whole text, eight bytes a call. */
    static void feed(YamIsland x, String text) {
        for (int from = 0; from < text.length(); from += 8) {
            int n = Math.min(8, text.length() - from);
            x.feed(n, bytes(text.substring(from, from + n)));
        }
    }

    static long bytes(String text) {
        long bytes = 0;
        for (int i = text.length() - 1; i >= 0; i--) {
            bytes = bytes << 8 | text.charAt(i);
        }
        return bytes;
    }

    /** Feeds a text and makes it a rule. */
    static int rule(YamIsland x, String text) {
        feed(x, text);
        return x.rule();
    }
}
