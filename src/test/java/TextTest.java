/** Texts, the rules that they become, and the places of their faults (promises 7 and 8). */
final class TextTest {
    private static final int FINE = -1;
    private final Checks checks = new Checks();

    public static void main(String[] args) {
        TextTest test = new TextTest();
        test.simpleTexts();
        test.numbers();
        test.mixedTexts();
        test.depth();
        test.oddBytes();
        test.checks.end();
    }

    /** The place of the fault that is due, FINE if there is none. */
    private void fault(String text, int place) {
        YamIsland x = new YamIsland();
        Checks.feed(x, text);
        checks.due("feed of \"" + text + "\", count(7)", x.count(7), text.length());
        checks.due("rule() of \"" + text + "\"", x.rule(), place == FINE ? 0 : -20 - place);
        checks.due("count(2) behind \"" + text + "\"", x.count(2), place == FINE ? 1 : 0);
        checks.due("count(7) behind \"" + text + "\"", x.count(7), 0);
        for (int what = 11; what <= 16; what++) {
            checks.due("count(" + what + ") behind \"" + text + "\"", x.count(what), 0);
        }
    }

    private void simpleTexts() {
        fault("", 0);
        fault("s", FINE);
        fault("b", FINE);
        fault("m", FINE);
        fault("n", FINE);
        for (String odd : new String[] {"x", "S", " ", "?", ":", ")", "0", "7"}) {
            fault(odd, 0);
            fault("s" + odd, 1);
        }
        fault("ss", 1);
        fault("bt1", 1);
        fault("s(1?s:s)", 1);
        fault("ssssssssssssssssssssssss", 1);
    }

    private void numbers() {
        fault("t", 1);
        fault("t0", 1);
        fault("t05", 1);
        fault("ts", 1);
        fault("t1", FINE);
        fault("t9", FINE);
        fault("t10", FINE);
        fault("t99", FINE);
        fault("t100", 3);
        fault("t999999", 3);
        fault("t1x", 2);
        fault("t12s", 3);
        fault("t/", 1);
        fault("t1:", 2);
    }

    private void mixedTexts() {
        fault("(", 1);
        fault("(?", 1);
        fault("(0?s:s)", 1);
        fault("(s?s:s)", 1);
        fault("((1?s:s)", 1);
        fault("(5", 2);
        fault("(5s:s)", 2);
        fault("(5:s)", 2);
        fault("(50", 3);
        fault("(500?s:s)", 3);
        fault("(5?", 3);
        fault("(5?:s)", 3);
        fault("(5?5:s)", 3);
        fault("(5?s", 4);
        fault("(5?s)", 4);
        fault("(5?ss:s)", 4);
        fault("(5?s:", 5);
        fault("(5?s:)", 5);
        fault("(5?s:s", 6);
        fault("(5?s:s:", 6);
        fault("(5?s:s)", FINE);
        fault("(99?t99:t10)", FINE);
        fault("(99?t:t10)", 5);
        fault("(99?t100:s)", 7);
        fault("(5?s:s))", 7);
        fault("(5?s:s)s", 7);
    }

    private void depth() {
        fault("(1?(2?s:b):m)", FINE);
        fault("(1?m:(2?s:b))", FINE);
        fault("(1?(2?(3?s:b):m):n)", FINE);
        fault("(1?(2?b:m):(3?s:n))", FINE);
        fault("(1?s:(2?s:(3?s:t10)))", FINE);
        fault("(1?(2?(3?(4?s:b):m):n):s", 24);
        fault("(1?(2?(3?(4?", 12);
        fault("(1?(2?(3?(4?(", 12);
        fault("(1?(2?(3?(4?(5?s:s)", 12);
        fault("(1?(2?(3?(4?s:(", 14);
        fault("(1?s:(1?s:(1?s:(1?s:(1?", 20);
        // the fifth of all, but only the fourth that is open at once
        fault("(1?(2?(3?(4?s:b):(", 18);
        fault("(1?(2?(3?(4?s:b):(5?(", 20);
    }

    private void oddBytes() {
        fault("" + (char) ('s' + 128), 0);
        fault("s" + (char) 0, 1);
        fault("" + (char) 255, 0);
        fault("t" + (char) ('1' + 128), 1);
    }
}
