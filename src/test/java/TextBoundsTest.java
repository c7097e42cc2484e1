/** The bounds of texts, their faults, and what each kind of rule chooses at its edges: promises 8 and 15. */
final class TextBoundsTest extends Trial {
    private static final String DIGITS = "0123456789";
    private static final String RULE = "sbmnt(";
    /** What is read of a text, and the bytes that can stand behind it. */
    private static final String[][] BEHIND = {
        {"", RULE}, {"s", ""}, {"b", ""}, {"m", ""}, {"n", ""},
        {"t", "123456789"}, {"t1", DIGITS}, {"t9", DIGITS}, {"t10", ""}, {"t99", ""},
        {"(", "123456789"}, {"(1", DIGITS + "?"}, {"(9", DIGITS + "?"}, {"(10", "?"}, {"(99", "?"},
        {"(1?", RULE}, {"(1?s", ":"}, {"(1?t", "123456789"}, {"(1?t1", DIGITS + ":"}, {"(1?t99", ":"},
        {"(1?s:", RULE}, {"(1?s:b", ")"}, {"(1?s:t", "123456789"}, {"(1?s:t1", DIGITS + ")"}, {"(1?s:t10", ")"},
        {"(1?s:b)", ""}, {"(1?(", "123456789"}, {"(1?(2?s:b)", ":"}, {"(1?s:(2?m:n)", ")"},
        {"(1?(2?(3?", RULE}, {"(1?(2?(3?(4?", "sbmnt"}, {"(1?(2?(3?(4?s:", "sbmnt"}, {"(1?s:(2?s:(3?s:(4?s:", "sbmnt"},
        {"(1?(2?(3?(4?s:b):", RULE}, {"(1?(2?(3?(4?s:b):(5?", "sbmnt"},
    };
    private static final String[] WHOLE = {
        "s", "b", "m", "n", "t1", "t9", "t10", "t99", "(1?s:b)", "(99?t99:t10)", "(5?(6?s:b):(7?m:n))",
        "(1?(2?(3?s:b):m):n)", "(1?s:(2?s:(3?s:t10)))", "(11?(2?(3?t10:t20):m):n)",
    };

    public static void main(String[] args) {
        TextBoundsTest test = new TextBoundsTest();
        test.texts();
        test.choices();
        test.checks.end();
    }

    private void texts() {
        bytesThatCanStand();
        firstByteThatCanNot();
        endIfSomethingLacks();
        fourDeep();
        fifthBracket();
        numbers();
    }

    private void choices() {
        stillAsNow();
        bestOfSeveral();
        bestIsItself();
        mostOfSeveral();
        nearBelow();
        nearIfNone();
        tryYears();
        tryElse();
        tryBehindTheLast();
        mixedLess();
        nextOfNobody();
    }

    /** The place of the fault of a text, -1 if it has none. */
    private int fault(String text) {
        YamIsland y = new YamIsland();
        int answer = Checks.rule(y, text);
        return answer == 0 && y.count(2) == 1 ? -1 : -20 - answer;
    }

    private void dueFault(String text, int place) {
        due("the fault of \"" + text + "\"", fault(text), place);
    }

    private void bytesThatCanStand() {
        sentence("the place of the first byte that can not stand");
        for (String[] row : BEHIND) {
            int place = row[0].length();
            for (char c = 0; c < 256; c++) {
                boolean stands = row[1].indexOf(c) >= 0;
                int fault = fault(row[0] + c);
                String told = "\"" + row[0] + "\" and byte " + (int) c;
                due(told, stands ? fault == -1 || fault == place + 1 ? 1 : 0 : fault, stands ? 1 : place);
            }
        }
    }

    private void firstByteThatCanNot() {
        sentence("FAULT: the place of the first byte that can not stand");
        for (String text : WHOLE) {
            dueFault(text, -1);
            for (int at = 0; at < text.length(); at++) {
                dueFault(text.substring(0, at) + "x" + text.substring(at + 1), at);
                dueFault(text.substring(0, at) + "x", at);
            }
            if (text.length() < 23) {
                dueFault(text + ")", text.length());
                dueFault(text + "))", text.length());
                dueFault(text + "xx", text.length());
            }
        }
        dueFault("xx", 0);
        dueFault("sxx", 1);
        dueFault("ssssssssssssssssssssssss", 1);
    }

    private void endIfSomethingLacks() {
        sentence("(the end, if something lacks;");
        dueFault("", 0);
        dueFault("t", 1);
        for (String text : WHOLE) {
            for (int length = 0; length < text.length(); length++) {
                String part = text.substring(0, length);
                boolean isWhole = part.equals("t1") || part.equals("t9");
                dueFault(part, isWhole ? -1 : length);
            }
        }
        dueFault("(1?(2?(3?(4?s:b):m):n):s", 24);
        dueFault("(1?(2?(3?t1:t2):t3):t4", 22);
    }

    private void fourDeep() {
        sentence("MIXED ones are 4 deep at most.");
        dueFault("(1?(2?(3?(", 10);
        dueFault("(1?(2?(3?(4?s", 13);
        dueFault("(1?(2?(3?(4?s:b)", 16);
        dueFault("(1?s:(2?s:(3?s:(4?s:b)))", 24);
        dueFault("(1?(2?s:(3?(4?s:b):m)):n", 24);
        // 24 bytes have no room for four that are closed: all but the last sign are fine
        dueFault("(1?(2?(3?(4?s:b):m):n):x", 23);
    }

    private void fifthBracket() {
        sentence("of a fifth bracket that is open at once its own");
        dueFault("(1?(2?(3?(4?(", 12);
        dueFault("(1?(2?(3?(4?(5?s:s)", 12);
        dueFault("(1?(2?(3?(4?((((", 12);
        dueFault("(1?(2?(3?(4?s:(", 14);
        dueFault("(1?(2?(3?(4?s:(5?s:s)", 14);
        dueFault("(1?s:(2?s:(3?s:(4?s:(5?", 20);
        dueFault("(1?(2?(3?(4?s:b):(5?(", 20);
        // those that are closed again do not count
        dueFault("(1?(2?(3?(4?s:b):(5?s:b", 23);
        dueFault("(1?(2?s:b):(3?(4?(5?", 20);
        dueFault("(1?(2?s:b):(3?(4?(5?s:b)", 24);
    }

    private void numbers() {
        sentence("K (a number 1 to 99, no 0 ahead)");
        for (int k = 1; k <= 99; k++) {
            dueFault("t" + k, -1);
            dueFault("(" + k + "?s:b)", -1);
        }
        for (int k = 0; k <= 9; k++) {
            dueFault("t0" + k, 1);
            dueFault("(0" + k + "?s:b)", 1);
            dueFault("t10" + k, 3);
            dueFault("(99" + k + "?s:b)", 3);
        }
        dueFault("t0", 1);
        dueFault("(0?s:b)", 1);
        dueFault("t100", 3);
        dueFault("t-1", 1);
        dueFault("t+1", 1);
        dueFault("t 1", 1);
    }

    private void stillAsNow() {
        sentence("\"s\" STILL: as it plants now.");
        steady(0, 99, 99, 99, 99, 99);
        rules("s");
        planters(0, 0, 5);
        x.show(1);
        due("the first way", x.next(0), 0);
        due("the last way", x.next(1), 5);
    }

    private void bestOfSeveral() {
        sentence("(of several the one of the least number of a person;");
        steady(1, 5, 5, 5, 0, 0);
        rules("b");
        planters(0, 0, 3, 2, 1, 0, 1, 2, 3);
        due("persons 1, 2, 3, 5, 6, 7", x.next(0), 3);
        due("the same behind them", x.next(4), 3);
        x.sees(0, 0b11111000);
        due("persons 3, 5, 6, 7", x.next(0), 1);
        x.sees(0, 0b11000000);
        due("persons 6, 7", x.next(0), 2);
        x.sees(0, 0b10000000);
        due("person 7", x.next(0), 3);
        x.plants(0, 4);
        x.plants(4, 5);
        x.sees(0, 0b00010000);
        due("0 is as much as 0", x.next(0), 4);
    }

    private void bestIsItself() {
        sentence("itself first of all, if it is among them)");
        steady(5, 5, 5, 4);
        rules("b");
        planters(0, 0, 1, 2, 3, 0, 0, 0, 1);
        due("the first one", x.next(0), 0);
        due("behind another", x.next(1), 1);
        due("behind two others", x.next(2), 2);
        due("the last one", x.next(7), 1);
        due("not if it is not among them", x.next(3), 0);
    }

    private void mostOfSeveral() {
        sentence("(of several its own, if it is among them; else the least)");
        steady(9, 1, 9, 1, 9, 1);
        rules("m");
        planters(0, 5, 5, 4, 4, 3, 3, 0, 1);
        due("5 is among them", x.next(0), 5);
        due("4 is among them", x.next(2), 4);
        due("3 is among them", x.next(4), 3);
        due("0 is not, though less", x.next(6), 3);
        due("1 is not", x.next(7), 3);
        x.sees(6, 0b00001111);
        due("4 and 5 alone", x.next(6), 4);
        x.sees(6, 0b10000001);
        due("one each", x.next(6), 0);
        x.sees(6, 0b00000011);
        due("two are more than itself", x.next(6), 5);
        x.plants(5, 0);
        x.plants(4, 0);
        due("three of the first way", x.next(7), 0);
        due("the last way is less than three", x.next(0), 0);
    }

    /** Person p plants way p but for the last two, who plant ways 0 and 1. */
    private void eightWhoFollow() {
        steady(1, 2, 3, 4, 5, 6);
        rules("n");
        planters(0, 0, 1, 2, 3, 4, 5, 0, 1);
    }

    private void nearBelow() {
        sentence("the person with the greatest number below its own whom it SEES;");
        eightWhoFollow();
        due("person 1", x.next(1), 0);
        due("person 6", x.next(6), 5);
        due("person 7", x.next(7), 0);
        x.sees(6, 0b10010101);
        due("person 6 sees 0, 2, 4, 7", x.next(6), 4);
        x.sees(6, 0b10000001);
        due("person 6 sees 0, 7", x.next(6), 0);
    }

    private void nearIfNone() {
        sentence("if there is none, that with the greatest number of all whom it SEES (itself, too).");
        eightWhoFollow();
        due("the first one sees the last", x.next(0), 1);
        x.sees(0, 0b00111000);
        due("3, 4, 5", x.next(0), 5);
        x.sees(0, 0);
        due("itself alone", x.next(0), 0);
        x.sees(5, 0b11000000);
        due("6, 7", x.next(5), 1);
        x.sees(7, 0);
        due("the last one, itself alone", x.next(7), 1);
        x.sees(4, 0b00010000);
        due("itself by its bit", x.next(4), 4);
        begin("near, some are not there");
        steady(1, 2, 3);
        rules("n");
        planters(0, 0, 1, 2);
        due("the last who is there", x.next(0), 2);
        x.sees(0, 0b11111000);
        due("nobody who is there", x.next(0), 0);
    }

    private void waysByYears(int person, int... ways) {
        for (int way : ways) {
            due("way of " + person + " in year " + x.count(3), x.of(person, 0), way);
            x.go(1);
        }
    }

    private void tryYears() {
        sentence("in YEARS of which K is a divisor the WAY of the number next to its own");
        steady(1, 2, 3, 4);
        rules("t1", "t99", "t60", "t2");
        x.person(0, 1);
        waysByYears(0, 0, 1, 1);
        x.go(60);
        x.go(36);
        waysByYears(0, 1, 2, 2);
        begin("try, two years and sixty");
        steady(1, 2, 3, 4);
        rules("t2", "t60", "t1");
        x.person(0, 0);
        waysByYears(0, 0, 1, 1, 2, 2, 3, 3, 0);
        x.lives(0, 1);
        x.plants(0, 0);
        x.go(52);
        waysByYears(0, 0, 1, 1);
        x.lives(0, 2);
        waysByYears(0, 1, 2, 3, 0, 1);
    }

    private void tryElse() {
        sentence("else as it plants now.");
        steady(1, 2, 3);
        rules("t99", "t2");
        x.person(0, 0);
        x.person(0, 1);
        x.go(1);
        due("t99 in year 1", x.next(0), 1);
        due("t2 in year 1", x.next(1), 1);
        x.plants(0, 2);
        x.plants(1, 0);
        due("what it plants now", x.next(0), 2);
        due("what it plants now", x.next(1), 0);
        x.go(1);
        due("t99 in year 2", x.next(0), 2);
        due("t2 in year 2", x.next(1), 1);
    }

    private void tryBehindTheLast() {
        sentence("(behind the last one WAY 0)");
        steady(1);
        rules("t1");
        x.person(0, 0);
        due("one way alone", x.next(0), 0);
        steady(2, 3, 4, 5);
        x.plants(0, 4);
        due("the last of five", x.next(0), 0);
        steady(6);
        due("no more the last", x.next(0), 5);
        x.plants(0, 5);
        due("the last of six", x.next(0), 0);
    }

    private void mixedLess() {
        sentence("the first RULE, if its own garden brought less than K this YEAR, else the other one.");
        steady(0, 1, 98, 99, 50);
        rules("(1?t1:s)", "(99?t1:s)", "(50?t1:(51?n:s))", "s");
        x.person(0, 0);
        due("0 is less than 1", x.next(0), 1);
        x.plants(0, 1);
        due("1 is not less than 1", x.next(0), 1);
        x.lives(0, 1);
        x.plants(0, 2);
        due("98 is less than 99", x.next(0), 3);
        x.plants(0, 3);
        due("99 is not less than 99", x.next(0), 3);
        x.person(0, 3);
        x.lives(0, 2);
        x.plants(0, 4);
        due("50 is not less than 50, but than 51", x.next(0), 0);
        begin("mixed, by the year");
        x.way(1, 9, 0, 0);
        x.way(9, 1, 0, 0);
        rules("(9?t1:s)");
        x.sky(2, 0b01_00);
        x.person(0, 0);
        // it brings 1 and tries, then 1 again, and tries again
        waysByYears(0, 0, 1, 0, 1);
        begin("mixed, the others' gardens do not count");
        steady(9, 1);
        rules("(5?t1:s)", "s");
        x.person(0, 0);
        x.person(1, 1);
        due("next(0)", x.next(0), 0);
    }

    private void nextOfNobody() {
        sentence("The WAY that a person chooses as this YEAR goes by. -1.");
        due("nobody", x.next(0), -1);
        steady(1, 2);
        rules("t1");
        planters(0, 0, 0, 0, 0, 0, 0, 0, 1);
        due("next(7)", x.next(7), 0);
        due("next(8)", x.next(8), -1);
        due("next(-1)", x.next(-1), -1);
        due("the least", x.next(LEAST), -1);
        due("the greatest", x.next(GREATEST), -1);
        due("nobody has chosen yet", x.share(1), 1);
        due("the year", x.count(3), 0);
        dueRefusals(5, 0, 0, 0, 0);
    }
}
