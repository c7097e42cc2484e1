/** The bounds of ways, the sky, the text, people and what is told of them: promises 1 to 14. */
final class TermsBoundsTest extends Trial {
    public static void main(String[] args) {
        TermsBoundsTest test = new TermsBoundsTest();
        test.beginnings();
        test.ways();
        test.skies();
        test.textAndRules();
        test.people();
        test.shows();
        test.checks.end();
    }

    private void beginnings() {
        noWaysNobody();
        yearAtFirst();
        skyAtFirst();
        showAtFirst();
    }

    private void ways() {
        sixWays();
        waysBring();
        anyOfFour();
        weathersOfWays();
        becomes();
        bestOfSeveral();
        bestOfNone();
    }

    private void skies() {
        skyRow();
        skyLengths();
        skyRoundAndRound();
        skyBits();
        skyWas();
        weatherYears();
    }

    private void textAndRules() {
        feedBytes();
        feedRefused();
        feedUpTo24();
        tenRules();
        textStays();
        faultIsNotCounted();
        textHasNoneThen();
    }

    private void people() {
        eightPeople();
        personRefused();
        allEightAtFirst();
        itselfAlways();
        seesBits();
        livesBounds();
        plantsBounds();
        ofBounds();
    }

    private void shows() {
        showBounds();
        showDivides();
        showAboveZero();
        showOfOne();
    }

    private void noWaysNobody() {
        sentence("No WAYS, nobody.");
        due("count(0)", x.count(0), 0);
        due("count(1)", x.count(1), 0);
        due("count(2)", x.count(2), 0);
        due("count(6)", x.count(6), 0);
        due("count(7)", x.count(7), 0);
        due("brings(0, 0, 0)", x.brings(0, 0, 0), -1);
        due("share(0)", x.share(0), -1);
        due("of(0, 0)", x.of(0, 0), -1);
        due("next(0)", x.next(0), -1);
        due("sees(0, 0)", x.sees(0, 0), -1);
        due("bestWay(0)", x.bestWay(0), -3);
        due("go(1)", x.go(1), -3);
        due("the first way", x.way(0, 0, 0, 0), 0);
        due("the first rule", Checks.rule(x, "s"), 0);
        due("the first person", x.person(0, 0), 0);
    }

    private void yearAtFirst() {
        sentence("YEAR is 0 at first.");
        due("count(3)", x.count(3), 0);
        due("image()", x.image(), 0);
        due("restore()", x.restore(), 0);
        steady(1);
        rules("s");
        x.person(0, 0);
        due("go(1)", x.go(1), 1);
    }

    private void skyAtFirst() {
        sentence("(at first one WEATHER 0)");
        due("count(4)", x.count(4), 1);
        due("weather(0)", x.weather(0), 0);
        due("weather(1)", x.weather(1), 0);
        due("weather(999999)", x.weather(999999), 0);
        x.way(7, 1, 2, 3);
        rules("s");
        x.person(0, 0);
        due("of(0, 3)", x.of(0, 3), 7);
        due("fares(60)", x.fares(60), 420);
        due("sky(2, 0)", x.sky(2, 0), 1);
    }

    private void showAtFirst() {
        sentence("SHOW s (0 .. 24; 0 at first)");
        due("count(5)", x.count(5), 0);
        due("show(0)", x.show(0), 0);
        begin("show at first");
        due("show(24)", x.show(24), 0);
    }

    private void sixWays() {
        sentence("WAYS 0 .. 5 as they come");
        for (int w = 0; w < 6; w++) {
            due("share(" + w + ") ahead of it", x.share(w), -1);
            due("way " + w, x.way(w, w, w, w), w);
            due("share(" + w + ")", x.share(w), 0);
        }
        due("a seventh", x.way(9, 9, 9, 9), -6);
        due("count(0)", x.count(0), 6);
        due("share(6)", x.share(6), -1);
        due("brings(6, 0, 0)", x.brings(6, 0, 0), -1);
        due("the sixth is as told", x.brings(5, 3, 0), 5);
        dueRefusals(7 + 1, 0, 0, 0, 1);
    }

    private void waysBring() {
        sentence("each with what it BRINGS (0 .. 99)");
        due("way of 0", x.way(0, 0, 0, 0), 0);
        due("way of 99", x.way(99, 99, 99, 99), 1);
        due("way of both", x.way(0, 99, 0, 99), 2);
        for (int weather = 0; weather < 4; weather++) {
            due("brings(0, " + weather + ", 99)", x.brings(0, weather, 99), 0);
            due("brings(1, " + weather + ", 0)", x.brings(1, weather, 0), 99);
            due("brings(2, " + weather + ", 100)", x.brings(2, weather, 100), -6);
            due("brings(2, " + weather + ", -1)", x.brings(2, weather, -1), -4);
            due("brings(2, " + weather + ", ..)", x.brings(2, weather, 50), weather % 2 == 0 ? 0 : 99);
        }
    }

    private int wayWith(int place, int v, int others) {
        return x.way(place == 0 ? v : others, place == 1 ? v : others, place == 2 ? v : others,
                place == 3 ? v : others);
    }

    private void anyOfFour() {
        sentence("-4 any; -6 (any; 6, too).");
        for (int place = 0; place < 4; place++) {
            due("-1 at " + place, wayWith(place, -1, 0), -4);
            due("the least at " + place, wayWith(place, LEAST, 0), -4);
            due("100 at " + place, wayWith(place, 100, 0), -6);
            due("the greatest at " + place, wayWith(place, GREATEST, 0), -6);
            due("-1 at " + place + " among 100s", wayWith(place, -1, 100), -4);
        }
        due("count(0)", x.count(0), 0);
        dueRefusals(0, 0, 0, 12, 8);
        steady(1, 2, 3, 4, 5, 6);
        due("a seventh", x.way(0, 0, 0, 0), -6);
        due("a seventh of 100", x.way(0, 0, 0, 100), -6);
        due("a seventh of -1", x.way(0, 0, 0, -1), -4);
        dueRefusals(0, 0, 0, 13, 10);
    }

    private void weathersOfWays() {
        sentence("in WEATHERS 0 .. 3");
        x.way(1, 2, 3, 4);
        due("brings(0, 0, 5)", x.brings(0, 0, 5), 1);
        due("brings(0, 3, 5)", x.brings(0, 3, 5), 4);
        due("brings(0, 4, 5)", x.brings(0, 4, 5), -1);
        due("brings(0, -1, 5)", x.brings(0, -1, 5), -1);
        due("the least", x.brings(0, LEAST, 5), -1);
        due("the greatest", x.brings(0, GREATEST, 5), -1);
        due("bestWay(0)", x.bestWay(0), 0);
        due("bestWay(3)", x.bestWay(3), 0);
        due("bestWay(4)", x.bestWay(4), -1);
        due("bestWay(-1)", x.bestWay(-1), -1);
        due("the least", x.bestWay(LEAST), -1);
        due("the greatest", x.bestWay(GREATEST), -1);
        dueRefusals(8, 0, 0, 0, 0);
    }

    private void becomes() {
        sentence("What a WAY BRINGS in a WEATHER becomes v: what it was. -1; -4; -6.");
        for (int w = 0; w < 6; w++) {
            x.way(10 * w, 10 * w + 1, 10 * w + 2, 10 * w + 3);
        }
        due("the first", x.brings(0, 0, 99), 0);
        due("the last", x.brings(5, 3, 99), 53);
        due("refused", x.brings(5, 3, 100), -6);
        due("refused", x.brings(0, 0, -1), -4);
        due("no such way, v above", x.brings(6, 0, 100), -1);
        due("no such weather, v below", x.brings(0, 4, -1), -1);
        for (int i = 1; i < 23; i++) {
            due("all others stay: " + i, x.brings(i / 4, i % 4, 0), 10 * (i / 4) + i % 4);
        }
        due("the first", x.brings(0, 0, 0), 99);
        due("the last", x.brings(5, 3, 0), 99);
    }

    private void bestOfSeveral() {
        sentence("the one that BRINGS most, of several the least.");
        x.way(0, 99, 5, 7);
        due("one alone that brings 0", x.bestWay(0), 0);
        x.way(0, 99, 6, 7);
        x.way(0, 99, 6, 7);
        x.way(0, 99, 6, 8);
        x.way(0, 99, 5, 8);
        x.way(0, 99, 5, 9);
        due("all bring 0", x.bestWay(0), 0);
        due("all bring 99", x.bestWay(1), 0);
        due("ways 1, 2, 3", x.bestWay(2), 1);
        due("the last one", x.bestWay(3), 5);
        x.brings(5, 3, 8);
        due("ways 3, 4, 5", x.bestWay(3), 3);
    }

    private void bestOfNone() {
        sentence("BEST WAY in a WEATHER. -1; -3.");
        due("no ways", x.bestWay(0), -3);
        due("no ways", x.bestWay(3), -3);
        due("no ways, no such weather", x.bestWay(4), -1);
        due("no ways, no such weather", x.bestWay(-1), -1);
        dueRefusals(2, 0, 2, 0, 0);
        x.way(0, 0, 0, 0);
        due("one way", x.bestWay(3), 0);
    }

    private void skyRow() {
        sentence("THE SKY: a row of 1 to 24 WEATHERS");
        for (int n = 1; n <= 24; n++) {
            due("sky(" + n + ", ..)", x.sky(n, 3L << 2 * (n - 1)), Math.max(1, n - 1));
            due("the last of " + n, x.weather(n - 1), 3);
            due("the first of " + n + ", gone round", x.weather(n), n == 1 ? 3 : 0);
        }
        due("sky(25, ..)", x.sky(25, 0), -6);
        due("sky(0, ..)", x.sky(0, 0), -4);
        due("count(4)", x.count(4), 24);
    }

    private void skyLengths() {
        sentence("THE SKY becomes n WEATHERS (1 .. 24)");
        due("sky(1, ..)", x.sky(1, 2), 1);
        due("count(4)", x.count(4), 1);
        due("sky(24, ..)", x.sky(24, 2), 1);
        due("count(4)", x.count(4), 24);
        due("sky(0, ..)", x.sky(0, 1), -4);
        due("sky(-1, ..)", x.sky(-1, 1), -4);
        due("the least", x.sky(LEAST, 1), -4);
        due("sky(25, ..)", x.sky(25, 1), -6);
        due("the greatest", x.sky(GREATEST, 1), -6);
        due("count(4)", x.count(4), 24);
        due("weather(0) stays", x.weather(0), 2);
        due("weather(1) stays", x.weather(1), 0);
        dueRefusals(0, 0, 0, 3, 2);
    }

    private void skyRoundAndRound() {
        sentence("gone round and round: YEAR y has the one at y modulo their number");
        // only the last of 24 is 3, only the first is 1; 999999 is 15 modulo 24
        x.sky(24, 3L << 46 | 2L << 30 | 1);
        due("weather(0)", x.weather(0), 1);
        due("weather(1)", x.weather(1), 0);
        due("weather(23)", x.weather(23), 3);
        due("weather(24)", x.weather(24), 1);
        due("weather(47)", x.weather(47), 3);
        due("weather(48)", x.weather(48), 1);
        due("weather(999999)", x.weather(999999), 2);
        x.way(1, 10, 20, 30);
        rules("s");
        x.person(0, 0);
        // 10, then 22 years of 1 but one of 20, then 30: 10 + 21 + 20 + 30
        due("fares(24)", x.fares(24), 81);
        x.go(23);
        due("the last of the row", x.of(0, 3), 30);
        x.go(1);
        due("the first of the row", x.of(0, 3), 10);
        due("weather(0) is still that of year 0", x.weather(0), 1);
    }

    private void skyBits() {
        sentence("told as bits, two each, the first the lowest");
        x.sky(24, 0xFFFF_0000_0000_0000L);
        for (int y = 0; y < 24; y++) {
            due("bits above are left, weather(" + y + ")", x.weather(y), 0);
        }
        x.sky(24, -1L);
        due("weather(0)", x.weather(0), 3);
        due("weather(23)", x.weather(23), 3);
        x.sky(4, 0b00_01_10_11);
        due("weather(0)", x.weather(0), 3);
        due("weather(1)", x.weather(1), 2);
        due("weather(2)", x.weather(2), 1);
        due("weather(3)", x.weather(3), 0);
        x.sky(17, 1L << 33);
        due("the high bit of the last of 17", x.weather(16), 2);
        x.sky(1, 0b11_10);
        due("one alone", x.weather(1), 2);
    }

    private void skyWas() {
        sentence("how many there were. -4; -6.");
        due("sky(24, 0)", x.sky(24, 0), 1);
        due("sky(25, 0)", x.sky(25, 0), -6);
        due("sky(0, 0)", x.sky(0, 0), -4);
        due("sky(1, 0)", x.sky(1, 0), 24);
        due("sky(7, 0)", x.sky(7, 0), 1);
        due("sky(7, 0)", x.sky(7, 0), 7);
    }

    private void weatherYears() {
        sentence("The WEATHER of a YEAR (0 .. 999999). -4; -6.");
        x.sky(2, 0b11_01);
        due("weather(0)", x.weather(0), 1);
        due("weather(999998)", x.weather(999998), 1);
        due("weather(999999)", x.weather(999999), 3);
        due("weather(-1)", x.weather(-1), -4);
        due("the least", x.weather(LEAST), -4);
        due("weather(1000000)", x.weather(1000000), -6);
        due("the greatest", x.weather(GREATEST), -6);
        dueRefusals(0, 0, 0, 2, 2);
    }

    private void feedBytes() {
        sentence("n (1 .. 8) bytes come to the TEXT, the lowest first: how many it has.");
        due("one of several", x.feed(1, Checks.bytes("mx")), 1);
        due("rule()", x.rule(), 0);
        due("all eight", x.feed(8, Checks.bytes("(1?b:t1)")), 8);
        due("rule()", x.rule(), 1);
        // the eighth byte is 255, which can not stand; those ahead of it can
        due("the eighth", x.feed(8, Checks.bytes("(1?b:t1") | 255L << 56), 8);
        due("rule()", x.rule(), -27);
        due("seven of eight", x.feed(7, Checks.bytes("(1?b:n)x")), 7);
        due("rule()", x.rule(), 2);
        due("behind one another", x.feed(1, 't'), 1);
        due("behind one another", x.feed(2, Checks.bytes("12")), 3);
        due("rule()", x.rule(), 3);
        dueRefusals(0, 0, 0, 0, 0);
    }

    private void feedRefused() {
        sentence("-4; -6 (above 24, too).");
        due("feed(0, ..)", x.feed(0, 's'), -4);
        due("feed(-1, ..)", x.feed(-1, 's'), -4);
        due("the least", x.feed(LEAST, 's'), -4);
        due("feed(9, ..)", x.feed(9, 's'), -6);
        due("the greatest", x.feed(GREATEST, 's'), -6);
        due("count(7)", x.count(7), 0);
        x.feed(8, 0);
        x.feed(8, 0);
        x.feed(8, 0);
        due("full", x.feed(1, 's'), -6);
        due("full, the greatest", x.feed(GREATEST, 's'), -6);
        due("full, feed(9, ..)", x.feed(9, 's'), -6);
        due("full, feed(0, ..)", x.feed(0, 's'), -4);
        due("full, the least", x.feed(LEAST, 's'), -4);
        due("count(7)", x.count(7), 24);
        dueRefusals(0, 0, 0, 5, 5);
    }

    private void feedUpTo24() {
        sentence("TEXTS (24 bytes at most)");
        due("feed(8, ..)", x.feed(8, Checks.bytes("(11?(2?(")), 8);
        due("feed(8, ..)", x.feed(8, Checks.bytes("3?t10:t2")), 16);
        due("feed(1, ..)", x.feed(1, '0'), 17);
        due("25 would be", x.feed(8, Checks.bytes("):m):n))")), -6);
        due("nothing of it came", x.count(7), 17);
        due("24", x.feed(7, Checks.bytes("):m):n)")), 24);
        due("25 would be", x.feed(1, ')'), -6);
        due("a rule of 24 bytes", x.rule(), 0);
        due("room again", x.feed(8, 0), 8);
        dueRefusals(0, 0, 0, 0, 2);
    }

    private void tenRules() {
        sentence("RULES (10 at most)");
        steady(1, 2);
        for (int r = 0; r < 10; r++) {
            due("person(0, " + r + ") ahead of it", x.person(0, r), -1);
            due("rule " + r, Checks.rule(x, r == 9 ? "t1" : "s"), r);
        }
        due("an eleventh of no bytes", x.rule(), -6);
        due("an eleventh", Checks.rule(x, "s"), -6);
        due("an eleventh with a fault", Checks.rule(x, "x"), -6);
        due("count(2)", x.count(2), 10);
        due("person(0, 10)", x.person(0, 10), -1);
        due("person(0, 9)", x.person(0, 9), 0);
        due("the tenth is as told", x.next(0), 1);
        dueRefusals(11, 0, 0, 0, 3);
    }

    private void textStays() {
        sentence("-6 10 (it stays).");
        steady(1, 2);
        rules("s", "s", "s", "s", "s", "s", "s", "s", "s");
        x.image();
        rules("s");
        Checks.feed(x, "t1");
        due("rule()", x.rule(), -6);
        due("count(7)", x.count(7), 2);
        due("rule()", x.rule(), -6);
        due("count(7)", x.count(7), 2);
        dueRefusals(0, 0, 0, 0, 2);
        // the image has nine rules and no text: the text goes on
        x.restore();
        due("count(7)", x.count(7), 2);
        due("its bytes are there", x.feed(1, '7'), 3);
        due("rule()", x.rule(), 9);
        x.person(0, 9);
        due("t17 in year 0", x.next(0), 1);
        x.go(1);
        due("t17 in year 1", x.next(0), 1);
    }

    private void faultIsNotCounted() {
        sentence("or, if it has a FAULT, -20 less its place (nothing is counted).");
        due("place 0", x.rule(), -20);
        due("place 0", Checks.rule(x, "x"), -20);
        due("place 1", Checks.rule(x, "ss"), -21);
        due("place 23", Checks.rule(x, "(11?(2?(3?t10:t20):m):n:"), -43);
        due("place 24", Checks.rule(x, "(1?(2?(3?(4?s:b):m):n):s"), -44);
        due("count(2)", x.count(2), 0);
        dueRefusals(0, 0, 0, 0, 0);
        due("the next one is the first", Checks.rule(x, "s"), 0);
    }

    private void textHasNoneThen() {
        sentence("The TEXT, which has none then, becomes a RULE: its number");
        due("rule()", Checks.rule(x, "t9"), 0);
        due("count(7)", x.count(7), 0);
        due("nothing is left", x.rule(), -20);
        due("behind a fault", Checks.rule(x, "tt"), -21);
        due("count(7)", x.count(7), 0);
        due("nothing is left", x.rule(), -20);
        due("a new text", Checks.rule(x, "s"), 1);
    }

    private void eightPeople() {
        sentence("PEOPLE 0 .. 7 as they come");
        steady(1);
        rules("s");
        for (int p = 0; p < 8; p++) {
            due("of(" + p + ", 0) ahead of it", x.of(p, 0), -1);
            due("person " + p, x.person(0, 0), p);
            due("of(" + p + ", 0)", x.of(p, 0), 0);
        }
        due("a ninth", x.person(0, 0), -6);
        due("count(1)", x.count(1), 8);
        due("of(8, 0)", x.of(8, 0), -1);
        due("share(0)", x.share(0), 8);
        dueRefusals(9, 0, 0, 0, 1);
    }

    private void personRefused() {
        sentence("A person: its number. -1 (WAY, RULE); -6.");
        steady(1, 2, 3, 4, 5, 6);
        rules("s", "b");
        due("way 6", x.person(6, 0), -1);
        due("way -1", x.person(-1, 0), -1);
        due("rule 2", x.person(0, 2), -1);
        due("rule -1", x.person(0, -1), -1);
        due("the least", x.person(LEAST, LEAST), -1);
        due("the greatest", x.person(GREATEST, GREATEST), -1);
        due("the last of both", x.person(5, 1), 0);
        planters(0, 0, 0, 0, 0, 0, 0, 0);
        due("no room and no way", x.person(6, 0), -1);
        due("no room and no rule", x.person(0, 2), -1);
        due("no room", x.person(5, 1), -6);
        due("count(1)", x.count(1), 8);
        dueRefusals(8, 0, 0, 0, 1);
    }

    private void allEightAtFirst() {
        sentence("all eight at first");
        steady(1, 5);
        rules("b", "s");
        x.person(0, 0);
        due("of(0, 2), alone", x.of(0, 2), 255);
        planters(1, 0, 0, 0, 0, 0, 0, 1);
        due("it sees who came later", x.next(0), 1);
        due("of(7, 2)", x.of(7, 2), 255);
    }

    private void itselfAlways() {
        sentence("itself always");
        steady(1, 5, 3);
        rules("b", "m", "n");
        planters(0, 1, 0);
        x.sees(0, 0);
        due("best, bits 0", x.next(0), 1);
        x.sees(0, 2);
        due("best, the other one's bit", x.next(0), 1);
        x.lives(0, 1);
        due("most, one each", x.next(0), 1);
        x.lives(0, 2);
        x.sees(0, 0);
        due("near, bits 0", x.next(0), 1);
        planters(1, 2, 2, 2, 2, 2, 2);
        x.plants(7, 1);
        x.sees(7, 0);
        due("the last one, bits 0", x.next(7), 1);
        due("as told", x.of(7, 2), 0);
    }

    private void seesBits() {
        sentence("Whom a person SEES (bits 0 .. 255): what it was. -1; -4; -6.");
        steady(1, 5);
        rules("b");
        planters(0, 0, 0, 0, 0, 0, 0, 0, 1);
        due("sees(0, 0)", x.sees(0, 0), 255);
        due("nobody", x.next(0), 0);
        due("sees(0, 127)", x.sees(0, 127), 0);
        due("all but the last", x.next(0), 0);
        due("sees(0, 128)", x.sees(0, 128), 127);
        due("the last one", x.next(0), 1);
        due("sees(0, 255)", x.sees(0, 255), 128);
        due("sees(0, -1)", x.sees(0, -1), -4);
        due("sees(0, 256)", x.sees(0, 256), -6);
        due("the least", x.sees(0, LEAST), -4);
        due("the greatest", x.sees(0, GREATEST), -6);
        due("sees(7, 255)", x.sees(7, 255), 255);
        due("sees(8, -1)", x.sees(8, -1), -1);
        due("sees(-1, 256)", x.sees(-1, 256), -1);
        due("of(0, 2) stays", x.of(0, 2), 255);
        dueRefusals(2, 0, 0, 2, 2);
    }

    private void livesBounds() {
        sentence("A person lives by a RULE: which it was. -1.");
        steady(1);
        rules("s", "s", "s", "s", "s", "s", "s", "s", "s", "s");
        planters(0, 0, 0, 0, 0, 0, 0, 0, 0);
        x.go(3);
        due("lives(7, 9)", x.lives(7, 9), 0);
        due("what it brought stays", x.of(7, 4), 3);
        due("lives(7, 10)", x.lives(7, 10), -1);
        due("lives(7, -1)", x.lives(7, -1), -1);
        due("lives(8, 0)", x.lives(8, 0), -1);
        due("lives(-1, 0)", x.lives(-1, 0), -1);
        due("the least", x.lives(LEAST, LEAST), -1);
        due("the greatest", x.lives(GREATEST, GREATEST), -1);
        due("lives(7, 9) again", x.lives(7, 9), 9);
        due("others stay", x.of(6, 1), 0);
        dueRefusals(6, 0, 0, 0, 0);
    }

    private void plantsBounds() {
        sentence("A person plants a WAY from now on: which it was. -1.");
        steady(1, 2, 3, 4, 5, 6);
        rules("s");
        planters(0, 0, 0, 0, 0, 0, 0, 0, 0);
        x.go(1);
        due("plants(7, 5)", x.plants(7, 5), 0);
        due("plants(7, 6)", x.plants(7, 6), -1);
        due("plants(7, -1)", x.plants(7, -1), -1);
        due("plants(8, 0)", x.plants(8, 0), -1);
        due("plants(-1, 0)", x.plants(-1, 0), -1);
        due("the least", x.plants(LEAST, LEAST), -1);
        due("the greatest", x.plants(GREATEST, GREATEST), -1);
        due("plants(7, 5) again", x.plants(7, 5), 5);
        due("others stay", x.of(6, 0), 0);
        due("what it brought stays", x.of(7, 4), 1);
        x.go(1);
        due("from now on", x.of(7, 4), 7);
        dueRefusals(6, 0, 0, 0, 0);
    }

    private void ofBounds() {
        sentence("0 WAY, 1 RULE, 2 whom it SEES (as told), 3 what its garden brings this YEAR, 4 all that it brought. "
                + "-1; -2.");
        x.way(3, 4, 0, 0);
        rules("s");
        x.sky(2, 0b01_00);
        x.person(0, 0);
        x.sees(0, 254);
        due("of(0, 0)", x.of(0, 0), 0);
        due("of(0, 2) without itself", x.of(0, 2), 254);
        due("of(0, 3)", x.of(0, 3), 3);
        due("of(0, 4)", x.of(0, 4), 0);
        x.go(1);
        due("of(0, 3) in year 1", x.of(0, 3), 4);
        due("of(0, 4) in year 1", x.of(0, 4), 3);
        due("of(0, 5)", x.of(0, 5), -2);
        due("of(0, -1)", x.of(0, -1), -2);
        due("the least", x.of(0, LEAST), -2);
        due("the greatest", x.of(0, GREATEST), -2);
        due("nobody, another what", x.of(1, 5), -1);
        due("nobody, another what", x.of(-1, -1), -1);
        dueRefusals(2, 4, 0, 0, 0);
    }

    private void showBounds() {
        sentence("SHOW: what it was. -4; -6.");
        due("show(24)", x.show(24), 0);
        due("show(25)", x.show(25), -6);
        due("show(-1)", x.show(-1), -4);
        due("the least", x.show(LEAST), -4);
        due("the greatest", x.show(GREATEST), -6);
        due("count(5) stays", x.count(5), 24);
        due("show(0)", x.show(0), 24);
        due("show(1)", x.show(1), 0);
        dueRefusals(0, 0, 0, 2, 2);
    }

    /** Person 0 sees nobody but at shows; then it would choose way 1. */
    private void oneWhoSeesNobody() {
        steady(1, 5);
        rules("b", "s");
        planters(0, 0);
        planters(1, 1);
        x.sees(0, 0);
    }

    private void nextYears(int... chosen) {
        for (int i = 0; i < chosen.length; i++) {
            due("next(0) in year " + x.count(3), x.next(0), chosen[i]);
            x.plants(0, 0);
            x.go(1);
            x.plants(0, 0);
        }
    }

    private void showDivides() {
        sentence("in YEARS of which s is a divisor (s above 0) all see all.");
        oneWhoSeesNobody();
        x.show(24);
        nextYears(1, 0, 0);
        x.go(20);
        x.plants(0, 0);
        nextYears(0, 1, 0);
        x.show(5);
        nextYears(0, 0, 0, 0, 1, 0);
    }

    private void showAboveZero() {
        sentence("(s above 0)");
        oneWhoSeesNobody();
        x.show(0);
        nextYears(0, 0, 0);
        due("and none in a run", x.fares(60), 360);
    }

    private void showOfOne() {
        sentence("all see all");
        oneWhoSeesNobody();
        x.show(1);
        nextYears(1, 1, 1);
        due("as told", x.of(0, 2), 0);
        x.show(0);
        nextYears(0);
    }
}
