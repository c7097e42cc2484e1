/** What the document says of refusals, promise by promise where no other test has those words, and of the last call. */
final class RefusalBoundsTest extends Trial {
    public static void main(String[] args) {
        RefusalBoundsTest test = new RefusalBoundsTest();
        test.codes();
        test.promises();
        test.lastCalls();
        test.checks.end();
    }

    private void codes() {
        firstThatFits();
        nothingChanges();
        nobody();
        otherWhat();
        stateOfNone();
        below();
        room();
    }

    private void promises() {
        wayNumbers();
        faresRefused();
        gainRefused();
        bestRuleRefused();
        blindRefused();
        countWhats();
    }

    private void lastCalls() {
        manyYears();
        manyRefusals();
        manyTexts();
    }

    private void firstThatFits() {
        sentence("the first that fits in the order in which it tells them");
        due("way: -4, -6", x.way(100, -1, 100, 100), -4);
        due("brings: -1, -6", x.brings(0, 0, 100), -1);
        due("bestWay: -1, -3", x.bestWay(4), -1);
        due("go: -4, -3", x.go(0), -4);
        due("go: -6, -3", x.go(61), -6);
        due("gain: -1, -4", x.gain(0, 0, 0), FAR - 1);
        due("part: -1, -2, -4, -3", x.part(0, 0, 2, 0), -1);
        rules("s");
        due("part: -2, -4, -3", x.part(0, 0, 2, 0), -2);
        due("part: -4, -3", x.part(0, 0, 1, 0), -4);
        due("part: -6, -3", x.part(0, 0, 1, 61), -6);
        due("part: -3", x.part(0, 0, 1, 60), -3);
        due("ifAll: -1, -4, -3", x.ifAll(1, 0), -1);
        due("edge: -1, -6, -3", x.edge(0, 0, 40, 61), -1);
        due("lessSeen: -4 of n ahead of -6 of k", x.lessSeen(8, 0), FAR - 4);
        due("shown: -4 of n ahead of -6 of s", x.shown(25, 0), FAR - 4);
        due("shown: -6, -3", x.shown(25, 1), FAR - 6);
        due("of: -1, -2", x.of(0, 5), -1);
        dueRefusals(7, 1, 1, 5, 3);
    }

    private void nothingChanges() {
        sentence("nothing changes but how many there were");
        x.way(1, 2, 3, 4);
        rules("s");
        x.person(0, 0);
        x.sky(2, 0b11_01);
        x.show(5);
        x.feed(2, Checks.bytes("t7"));
        x.go(1);
        x.way(9, 9, 9, 100);
        x.brings(0, 0, 100);
        x.sky(25, 0);
        x.feed(9, 0);
        x.person(1, 0);
        x.sees(0, 256);
        x.lives(0, 1);
        x.plants(0, 1);
        x.show(25);
        x.go(61);
        x.restore();
        dueRefusals(3, 0, 1, 0, 7);
        int[] counts = {1, 1, 1, 1, 2, 5, 2, 2};
        for (int what = 0; what < counts.length; what++) {
            due("count(" + what + ")", x.count(what), counts[what]);
        }
        int[] told = {0, 0, 255, 4, 2};
        for (int what = 0; what < told.length; what++) {
            due("of(0, " + what + ")", x.of(0, what), told[what]);
        }
        due("weather(0)", x.weather(0), 1);
        due("weather(1)", x.weather(1), 3);
        due("brings(0, 0, 1)", x.brings(0, 0, 1), 1);
        due("rule()", x.rule(), 1);
    }

    private void nobody() {
        sentence("-1 NOBODY: no such WAY, WEATHER, person, RULE.");
        x.way(1, 2, 3, 4);
        rules("s");
        x.person(0, 0);
        due("WAY", x.share(1), -1);
        due("WAY", x.share(-1), -1);
        due("WEATHER", x.bestWay(4), -1);
        due("WEATHER", x.bestWay(-1), -1);
        due("person", x.next(1), -1);
        due("person", x.next(-1), -1);
        due("RULE", x.ifAll(1, 1), -1);
        due("RULE", x.ifAll(-1, 1), -1);
        dueRefusals(8, 0, 0, 0, 0);
    }

    private void otherWhat() {
        sentence("-2 OTHER: what.");
        steady(1);
        rules("s");
        x.person(0, 0);
        due("of(0, 5)", x.of(0, 5), -2);
        due("of(0, -1)", x.of(0, -1), -2);
        due("part, what 2", x.part(0, 0, 2, 1), -2);
        due("part, what -1", x.part(0, 0, -1, 1), -2);
        dueRefusals(0, 4, 0, 0, 0);
        due("count(8) is none", x.count(8), -9);
        dueRefusals(0, 4, 0, 0, 0);
    }

    private void stateOfNone() {
        sentence("-3 STATE: it is not as told (no WAYS, no PEOPLE, no RULES where some are needed).");
        due("no WAYS", x.bestWay(0), -3);
        due("no RULES", x.bestRule(1), -3);
        steady(1);
        rules("s");
        due("no PEOPLE", x.go(1), -3);
        due("no PEOPLE", x.fares(1), -3);
        due("no PEOPLE", x.wrong(1), -3);
        due("no PEOPLE", x.alike(1), -3);
        due("no PEOPLE", x.rest(1), -3);
        due("no PEOPLE", x.ifAll(0, 1), -3);
        due("no PEOPLE", x.bestRule(1), -3);
        due("no PEOPLE", x.part(0, 0, 0, 1), -3);
        due("no PEOPLE", x.edge(0, 0, 0, 1), -3);
        due("no PEOPLE", x.lessSeen(0, 1), FAR - 3);
        due("no PEOPLE", x.shown(0, 1), FAR - 3);
        due("no PEOPLE", x.blind(1), -3);
        dueRefusals(0, 0, 14, 0, 0);
        x.person(0, 0);
        due("one is there", x.go(1), 1);
        due("one is there", x.blind(1), 0);
        dueRefusals(0, 0, 14, 0, 0);
    }

    private void below() {
        sentence("-4 BELOW: a number below the least.");
        due("way", x.way(-1, 0, 0, 0), -4);
        due("sky", x.sky(0, 0), -4);
        due("weather", x.weather(-1), -4);
        due("feed", x.feed(0, 0), -4);
        due("show", x.show(-1), -4);
        due("go", x.go(0), -4);
        steady(0);
        rules("s");
        x.person(0, 0);
        due("brings", x.brings(0, 0, -1), -4);
        due("sees", x.sees(0, -1), -4);
        dueRefusals(0, 0, 0, 8, 0);
        due("the least are fine", x.sky(1, 0) + x.weather(0) + x.show(0) + x.brings(0, 0, 0), 1);
        due("the least are fine", x.sees(0, 0), 255);
        due("the least are fine", x.go(1) + x.feed(1, 0), 2);
        dueRefusals(0, 0, 0, 8, 0);
    }

    private void room() {
        sentence("-6 ROOM: a number above the greatest, no room.");
        due("above: way", x.way(100, 0, 0, 0), -6);
        due("above: sky", x.sky(25, 0), -6);
        due("above: weather", x.weather(1000000), -6);
        due("above: feed", x.feed(9, 0), -6);
        due("above: show", x.show(25), -6);
        due("above: go", x.go(61), -6);
        steady(1, 2, 3, 4, 5, 6);
        rules("s", "s", "s", "s", "s", "s", "s", "s", "s", "s");
        planters(0, 0, 0, 0, 0, 0, 0, 0, 0);
        due("no room: way", x.way(0, 0, 0, 0), -6);
        due("no room: rule", x.rule(), -6);
        due("no room: person", x.person(0, 0), -6);
        Checks.feed(x, "ssssssssssssssssssssssss");
        due("no room: feed", x.feed(1, 's'), -6);
        dueRefusals(0, 0, 0, 0, 10);
    }

    private void wayNumbers() {
        sentence("A WAY by what it BRINGS in WEATHERS 0 .. 3: its number.");
        due("way(0, 33, 66, 99)", x.way(0, 33, 66, 99), 0);
        due("way(99, 66, 33, 0)", x.way(99, 66, 33, 0), 1);
        for (int weather = 0; weather < 4; weather++) {
            due("of way 0 in " + weather, x.brings(0, weather, 0), 33 * weather);
            due("of way 1 in " + weather, x.brings(1, weather, 0), 99 - 33 * weather);
        }
    }

    private void faresRefused() {
        sentence("FARES in a RUN. -4; -6; -3 no PEOPLE.");
        due("n 0", x.fares(0), -4);
        due("n -1", x.fares(-1), -4);
        due("the least n", x.fares(LEAST), -4);
        due("n 61", x.fares(61), -6);
        due("the greatest n", x.fares(GREATEST), -6);
        due("n 1", x.fares(1), -3);
        due("n 60", x.fares(60), -3);
        dueRefusals(0, 0, 2, 3, 2);
        steady(3);
        rules("s");
        x.person(0, 0);
        due("n 1", x.fares(1), 3);
        due("n 60", x.fares(60), 180);
        due("n 0", x.fares(0), -4);
        due("n 61", x.fares(61), -6);
    }

    private void gainRefused() {
        sentence("GAIN. -1 either; -4; -6.");
        due("nobody, n 0", x.gain(0, 0, 0), FAR - 1);
        steady(3, 4);
        rules("s", "t1");
        due("nobody", x.gain(0, 0, 1), FAR - 1);
        planters(0, 0);
        due("person 1, n 61", x.gain(1, 0, 61), FAR - 1);
        due("person -1, n 0", x.gain(-1, 0, 0), FAR - 1);
        due("rule 2, n 61", x.gain(0, 2, 61), FAR - 1);
        due("rule -1, n 0", x.gain(0, -1, 0), FAR - 1);
        due("the least", x.gain(LEAST, LEAST, LEAST), FAR - 1);
        due("the greatest", x.gain(GREATEST, GREATEST, GREATEST), FAR - 1);
        due("n 0", x.gain(0, 1, 0), FAR - 4);
        due("the least n", x.gain(0, 1, LEAST), FAR - 4);
        due("n 61", x.gain(0, 1, 61), FAR - 6);
        due("the greatest n", x.gain(0, 1, GREATEST), FAR - 6);
        due("n 1", x.gain(0, 1, 1), 0);
        due("n 60", x.gain(0, 1, 60), 30);
        dueRefusals(8, 0, 0, 2, 2);
    }

    private void bestRuleRefused() {
        sentence("BEST RULE. -4; -6; -3.");
        due("n 0", x.bestRule(0), -4);
        due("the least n", x.bestRule(LEAST), -4);
        due("n 61", x.bestRule(61), -6);
        due("the greatest n", x.bestRule(GREATEST), -6);
        due("no rules, nobody", x.bestRule(60), -3);
        rules("s");
        due("nobody", x.bestRule(1), -3);
        dueRefusals(0, 0, 2, 2, 2);
        steady(1);
        x.person(0, 0);
        due("n 1", x.bestRule(1), 0);
        due("n 60", x.bestRule(60), 0);
    }

    private void blindRefused() {
        sentence("BLIND. -4; -6; -3.");
        due("n 0", x.blind(0), -4);
        due("the least n", x.blind(LEAST), -4);
        due("n 61", x.blind(61), -6);
        due("the greatest n", x.blind(GREATEST), -6);
        due("n 1", x.blind(1), -3);
        due("n 60", x.blind(60), -3);
        dueRefusals(0, 0, 2, 2, 2);
    }

    private void countWhats() {
        sentence("0 WAYS, 1 PEOPLE, 2 RULES, 3 the YEAR, 4 WEATHERS in THE SKY, 5 SHOW, 6 all that all brought, "
                + "7 bytes of the TEXT");
        steady(99, 99, 99, 99, 99, 99);
        rules("s", "s", "s", "s", "s", "s", "s", "s", "s", "s");
        planters(9, 5, 5, 5, 5, 5, 5, 5, 5);
        x.sky(24, 0);
        x.show(24);
        Checks.feed(x, "ssssssssssssssssssssssss");
        x.go(60);
        int[] greatest = {6, 8, 10, 60, 24, 24, 99 * 8 * 60, 24};
        for (int what = 0; what < greatest.length; what++) {
            due("count(" + what + ")", x.count(what), greatest[what]);
        }
    }

    private void manyYears() {
        sentence("An object is used for at most 512 calls after it has been made");
        steady(99);
        rules("s");
        planters(0, 0, 0, 0, 0, 0, 0, 0, 0);
        // 11 calls so far; 499 more make 510
        for (int i = 1; i <= 499; i++) {
            due("go(60)", x.go(60), 60 * i);
        }
        due("call 511", x.count(6), 99 * 8 * 60 * 499);
        due("call 512", x.of(7, 4), 99 * 60 * 499);
    }

    private void manyRefusals() {
        sentence("at most 512 calls");
        for (int i = 0; i < 511; i++) {
            due("restore()", x.restore(), -3);
        }
        due("call 512", x.count(13), 511);
    }

    private void manyTexts() {
        sentence("at most 512 calls after it has been made");
        for (int i = 0; i < 128; i++) {
            x.feed(8, Checks.bytes("(1?(2?(3"));
            x.feed(8, Checks.bytes("?(4?s:b)"));
            due("feed(8, ..)", x.feed(8, Checks.bytes(":m):n):s")), 24);
            due("rule()", x.rule(), -44);
        }
    }
}
