/** Each promise by hand; the numbers that are due are worked out in the comments. */
final class PromisesTest extends Trial {
    public static void main(String[] args) {
        PromisesTest test = new PromisesTest();
        test.first();
        test.setting();
        test.choices();
        test.runs();
        test.wholes();
        test.checks.end();
    }

    private void first() {
        newObject();
        way();
        brings();
        bestWay();
        sky();
        weather();
        feed();
        rule();
    }

    private void setting() {
        person();
        sees();
        lives();
        plants();
        show();
        of();
    }

    private void choices() {
        nextStill();
        nextBest();
        nextMost();
        nextNear();
        nextTry();
        nextMixed();
        nextRefused();
    }

    private void runs() {
        go();
        share();
        fares();
        wrong();
        alike();
        gain();
        rest();
    }

    private void wholes() {
        ifAllAndBestRule();
        bestPart();
        partAtRest();
        edge();
        greatestEdge();
        edgeInLaterYears();
        lessSeen();
        shown();
        blind();
        imageAndRestore();
        count();
    }

    private void newObject() {
        begin("1");
        for (int what = 0; what <= 16; what++) {
            int want = what == 4 ? 1 : what >= 8 && what <= 10 ? -9 : 0;
            due("count(" + what + ")", x.count(what), want);
        }
        due("weather(0)", x.weather(0), 0);
        due("weather(77)", x.weather(77), 0);
        due("person(0, 0)", x.person(0, 0), -1);
        due("of(0, 0)", x.of(0, 0), -1);
        due("share(0)", x.share(0), -1);
        due("restore()", x.restore(), -3);
    }

    private void way() {
        begin("2");
        due("way(0, 0, 0, 0)", x.way(0, 0, 0, 0), 0);
        due("way(99, 99, 99, 99)", x.way(99, 99, 99, 99), 1);
        due("first -1", x.way(-1, 0, 0, 0), -4);
        due("second -1", x.way(0, -1, 0, 0), -4);
        due("third -1", x.way(0, 0, -1, 0), -4);
        due("fourth -1", x.way(0, 0, 0, -1), -4);
        due("first 100", x.way(100, 0, 0, 0), -6);
        due("second 100", x.way(0, 100, 0, 0), -6);
        due("third 100", x.way(0, 0, 100, 0), -6);
        due("fourth 100", x.way(0, 0, 0, 100), -6);
        due("-4 ahead of -6", x.way(100, 0, 0, -1), -4);
        due("count(0)", x.count(0), 2);
        for (int i = 2; i < 6; i++) {
            due("way " + i, x.way(i, 10 + i, 20 + i, 30 + i), i);
        }
        due("a seventh", x.way(1, 1, 1, 1), -6);
        due("a seventh below", x.way(1, 1, -1, 1), -4);
        due("count(0)", x.count(0), 6);
        dueRefusals(0, 0, 0, 6, 5);
        due("brings(5, 0, 0)", x.brings(5, 0, 0), 5);
        due("brings(5, 1, 0)", x.brings(5, 1, 0), 15);
        due("brings(5, 2, 0)", x.brings(5, 2, 0), 25);
        due("brings(5, 3, 0)", x.brings(5, 3, 0), 35);
    }

    private void brings() {
        begin("3");
        due("no way yet", x.brings(0, 0, 0), -1);
        x.way(1, 2, 3, 4);
        due("brings(0, 2, 99)", x.brings(0, 2, 99), 3);
        due("brings(0, 2, 0)", x.brings(0, 2, 0), 99);
        due("brings(0, 2, 7)", x.brings(0, 2, 7), 0);
        due("brings(0, 1, 7)", x.brings(0, 1, 7), 2);
        due("way -1", x.brings(-1, 0, 0), -1);
        due("way 1", x.brings(1, 0, 0), -1);
        due("weather -1", x.brings(0, -1, 0), -1);
        due("weather 4", x.brings(0, 4, 0), -1);
        due("-1 ahead of -4", x.brings(0, 4, -1), -1);
        due("-1 ahead of -6", x.brings(1, 0, 100), -1);
        due("v -1", x.brings(0, 0, -1), -4);
        due("v 100", x.brings(0, 0, 100), -6);
        due("as it was", x.brings(0, 0, 1), 1);
        dueRefusals(7, 0, 0, 1, 1);
    }

    private void bestWay() {
        begin("4");
        due("no ways", x.bestWay(0), -3);
        due("no weather", x.bestWay(4), -1);
        due("no weather", x.bestWay(-1), -1);
        x.way(5, 1, 0, 9);
        x.way(2, 6, 0, 9);
        x.way(5, 6, 1, 8);
        due("bestWay(0)", x.bestWay(0), 0);
        due("bestWay(1)", x.bestWay(1), 1);
        due("bestWay(2)", x.bestWay(2), 2);
        due("bestWay(3)", x.bestWay(3), 0);
        x.brings(2, 3, 10);
        due("bestWay(3)", x.bestWay(3), 2);
        dueRefusals(2, 0, 1, 0, 0);
    }

    private void sky() {
        begin("5");
        // 1, 2, 3 and bits above them that are not asked for
        due("sky(3, ..)", x.sky(3, 0b11_11_11_10_01L), 1);
        int[] three = {1, 2, 3, 1, 2, 3, 1};
        for (int y = 0; y < three.length; y++) {
            due("weather(" + y + ")", x.weather(y), three[y]);
        }
        long weathers = 0;
        for (int i = 0; i < 24; i++) {
            weathers |= (long) (i * 7 % 4) << 2 * i;
        }
        due("sky(24, ..)", x.sky(24, weathers), 3);
        for (int y = 0; y < 50; y++) {
            due("weather(" + y + ")", x.weather(y), y % 24 * 7 % 4);
        }
        due("sky(0, 0)", x.sky(0, 0), -4);
        due("sky(-1, 0)", x.sky(-1, 0), -4);
        due("sky(25, 0)", x.sky(25, 0), -6);
        due("weather(1)", x.weather(1), 3);
        due("count(4)", x.count(4), 24);
        due("sky(1, -1)", x.sky(1, -1L), 24);
        due("weather(0)", x.weather(0), 3);
        due("weather(1)", x.weather(1), 3);
        due("count(4)", x.count(4), 1);
        dueRefusals(0, 0, 0, 2, 1);
    }

    private void weather() {
        begin("6");
        // weathers 0 .. 6 have 0, 0, 1, 0, 0, 0, 3; 999999 is 0 modulo 7
        x.sky(7, 3L << 12 | 1L << 4);
        due("weather(6)", x.weather(6), 3);
        due("weather(9)", x.weather(9), 1);
        due("weather(999998)", x.weather(999998), 3);
        due("weather(999999)", x.weather(999999), 0);
        due("weather(-1)", x.weather(-1), -4);
        due("least", x.weather(Integer.MIN_VALUE), -4);
        due("weather(1000000)", x.weather(1000000), -6);
        due("greatest", x.weather(Integer.MAX_VALUE), -6);
        dueRefusals(0, 0, 0, 2, 2);
    }

    private void feed() {
        begin("7");
        due("feed(1, ..)", x.feed(1, 0x7373L), 1);
        due("one byte alone", x.rule(), 0);
        due("lowest first", x.feed(2, 't' | '7' << 8), 2);
        due("rule()", x.rule(), 1);
        due("feed(0, 0)", x.feed(0, 0), -4);
        due("feed(-1, 0)", x.feed(-1, 0), -4);
        due("feed(9, 0)", x.feed(9, 0), -6);
        due("count(7)", x.count(7), 0);
        // (12?t34:(56?m:n)) comes in two calls of eight and one of one
        due("feed(8, ..)", x.feed(8, Checks.bytes("(12?t34:")), 8);
        due("feed(8, ..)", x.feed(8, Checks.bytes("(56?m:n)")), 16);
        due("feed(1, ..)", x.feed(1, ')'), 17);
        due("rule()", x.rule(), 2);
        due("feed(8, ..)", x.feed(8, 0), 8);
        due("feed(8, ..)", x.feed(8, 0), 16);
        due("feed(7, ..)", x.feed(7, 0), 23);
        due("above 24", x.feed(2, 0), -6);
        due("24", x.feed(1, 0), 24);
        due("above 24", x.feed(1, 0), -6);
        due("-4 all the same", x.feed(0, 0), -4);
        due("count(7)", x.count(7), 24);
        dueRefusals(0, 0, 0, 3, 3);
    }

    private void rule() {
        begin("8");
        for (int i = 0; i < 9; i++) {
            due("rule " + i, Checks.rule(x, "s"), i);
        }
        due("a fault", Checks.rule(x, "(5?s:x)"), -25);
        due("count(7)", x.count(7), 0);
        due("the tenth", Checks.rule(x, "b"), 9);
        due("no room", Checks.rule(x, "m"), -6);
        due("the text stays", x.count(7), 1);
        due("no room for a fault", Checks.rule(x, "m"), -6);
        due("the text stays", x.count(7), 2);
        due("count(2)", x.count(2), 10);
        dueRefusals(0, 0, 0, 0, 2);
    }

    private void person() {
        begin("9");
        steady(3, 4);
        due("no rule", x.person(0, 0), -1);
        rules("s", "b");
        due("way 2", x.person(2, 0), -1);
        due("way -1", x.person(-1, 0), -1);
        due("rule 2", x.person(0, 2), -1);
        due("rule -1", x.person(0, -1), -1);
        for (int p = 0; p < 8; p++) {
            due("person " + p, x.person(p % 2, p / 4), p);
        }
        due("a ninth", x.person(0, 0), -6);
        due("a ninth without a way", x.person(2, 0), -1);
        due("count(1)", x.count(1), 8);
        due("of(5, 0)", x.of(5, 0), 1);
        due("of(5, 1)", x.of(5, 1), 1);
        due("of(2, 0)", x.of(2, 0), 0);
        due("of(2, 1)", x.of(2, 1), 0);
        due("of(7, 2)", x.of(7, 2), 255);
        due("of(7, 4)", x.of(7, 4), 0);
        dueRefusals(6, 0, 0, 0, 1);
    }

    private void sees() {
        begin("10");
        steady(3, 4);
        rules("b");
        x.person(0, 0);
        due("sees(0, 2)", x.sees(0, 2), 255);
        due("sees(0, 0)", x.sees(0, 0), 2);
        due("nobody else yet", x.next(0), 0);
        x.person(1, 0);
        due("sees nobody", x.next(0), 0);
        due("sees(0, 254)", x.sees(0, 254), 0);
        due("as told, without itself", x.of(0, 2), 254);
        due("sees the other one", x.next(0), 1);
        due("sees(1, 1)", x.sees(1, 1), 255);
        due("itself always", x.next(1), 1);
        due("person -1", x.sees(-1, 0), -1);
        due("person 2", x.sees(2, 0), -1);
        due("-1 ahead of -4", x.sees(2, -1), -1);
        due("bits -1", x.sees(0, -1), -4);
        due("bits 256", x.sees(0, 256), -6);
        due("sees(0, 255)", x.sees(0, 255), 254);
        dueRefusals(3, 0, 0, 1, 1);
    }

    private void lives() {
        begin("11");
        steady(3, 4);
        rules("s", "t1");
        x.person(0, 0);
        due("lives(0, 1)", x.lives(0, 1), 0);
        due("of(0, 1)", x.of(0, 1), 1);
        due("next(0)", x.next(0), 1);
        due("lives(0, 0)", x.lives(0, 0), 1);
        due("next(0)", x.next(0), 0);
        due("person 1", x.lives(1, 0), -1);
        due("person -1", x.lives(-1, 0), -1);
        due("rule 2", x.lives(0, 2), -1);
        due("rule -1", x.lives(0, -1), -1);
        due("of(0, 1)", x.of(0, 1), 0);
        dueRefusals(4, 0, 0, 0, 0);
    }

    private void plants() {
        begin("12");
        steady(3, 4);
        rules("s");
        x.person(0, 0);
        due("plants(0, 1)", x.plants(0, 1), 0);
        due("of(0, 0)", x.of(0, 0), 1);
        due("plants(0, 0)", x.plants(0, 0), 1);
        due("person 1", x.plants(1, 0), -1);
        due("person -1", x.plants(-1, 0), -1);
        due("way 2", x.plants(0, 2), -1);
        due("way -1", x.plants(0, -1), -1);
        due("of(0, 0)", x.of(0, 0), 0);
        dueRefusals(4, 0, 0, 0, 0);
    }

    private void show() {
        begin("13");
        due("show(24)", x.show(24), 0);
        due("show(-1)", x.show(-1), -4);
        due("show(25)", x.show(25), -6);
        due("show(0)", x.show(0), 24);
        dueRefusals(0, 0, 0, 1, 1);
        steady(3, 4);
        rules("b", "s");
        x.person(0, 0);
        x.person(1, 1);
        x.sees(0, 0);
        due("without a show", x.next(0), 0);
        x.show(3);
        due("year 0", x.next(0), 1);
        due("as told", x.of(0, 2), 0);
        x.show(0);
        x.go(1);
        x.show(3);
        due("year 1", x.next(0), 0);
        x.go(1);
        due("year 2", x.next(0), 0);
        x.go(1);
        due("year 3", x.next(0), 1);
    }

    private void of() {
        begin("14");
        due("nobody", x.of(0, 9), -1);
        x.way(5, 1, 0, 9);
        x.way(2, 6, 0, 9);
        rules("s", "s", "t1");
        x.sky(2, 0b01_00);
        x.person(0, 0);
        x.person(1, 2);
        x.sees(1, 77);
        int[] atFirst = {1, 2, 77, 2, 0};
        for (int what = 0; what < 5; what++) {
            due("of(1, " + what + ")", x.of(1, what), atFirst[what]);
        }
        x.go(1);
        // person 1 brought 2 and plants way 0 in weather 1 now
        int[] then = {0, 2, 77, 1, 2};
        for (int what = 0; what < 5; what++) {
            due("of(1, " + what + ") in year 1", x.of(1, what), then[what]);
        }
        due("of(0, 4)", x.of(0, 4), 5);
        x.go(1);
        due("of(1, 4)", x.of(1, 4), 3);
        due("what -1", x.of(0, -1), -2);
        due("what 5", x.of(0, 5), -2);
        due("-1 ahead of -2", x.of(2, 5), -1);
        due("person -1", x.of(-1, 0), -1);
        dueRefusals(3, 2, 0, 0, 0);
    }

    private void nextStill() {
        begin("15, still");
        steady(1, 9);
        rules("s");
        x.person(0, 0);
        x.person(1, 0);
        due("next(0)", x.next(0), 0);
        due("next(1)", x.next(1), 1);
    }

    private void nextBest() {
        begin("15, best");
        steady(5, 7, 7, 9);
        rules("b");
        x.person(0, 0);
        x.person(2, 0);
        x.person(1, 0);
        x.person(0, 0);
        due("of several the least number", x.next(0), 2);
        due("the same for the last one", x.next(3), 2);
        due("itself first", x.next(1), 2);
        due("itself first, behind another", x.next(2), 1);
        x.sees(0, 1 << 2);
        due("whom it sees alone", x.next(0), 1);
        x.sees(0, 1 << 3);
        due("as much as its own", x.next(0), 0);
        x.plants(3, 3);
        due("the greatest", x.next(0), 3);
    }

    private void nextMost() {
        begin("15, most");
        steady(5, 7, 8, 9);
        rules("m");
        int[] ways = {0, 1, 1, 2, 2};
        for (int way : ways) {
            x.person(way, 0);
        }
        due("the least of several", x.next(0), 1);
        due("its own among several", x.next(3), 2);
        x.sees(0, 1 << 1 | 1 << 3);
        due("its own, one each", x.next(0), 0);
        x.sees(0, 1 << 3 | 1 << 4);
        due("whom it sees", x.next(0), 2);
        x.sees(0, 1 << 3);
        due("itself is counted", x.next(0), 0);
        x.person(2, 0);
        due("most", x.next(1), 2);
        x.plants(3, 0);
        x.plants(4, 0);
        due("most, the first way", x.next(1), 0);
    }

    private void nextNear() {
        begin("15, near");
        steady(5, 7, 8, 9, 1);
        rules("n");
        for (int way = 0; way < 5; way++) {
            x.person(way, 0);
        }
        due("just below", x.next(2), 1);
        due("the first one: the last of all", x.next(0), 4);
        x.sees(2, 1 << 0 | 1 << 3);
        due("further below", x.next(2), 0);
        x.sees(2, 1 << 3 | 1 << 4);
        due("none below", x.next(2), 4);
        x.sees(2, 1 << 3);
        due("none below", x.next(2), 3);
        x.sees(2, 0);
        due("itself, too", x.next(2), 2);
        x.sees(2, 1 << 5 | 1 << 7);
        due("who is not there", x.next(2), 2);
    }

    private void nextTry() {
        begin("15, try");
        steady(5, 7, 8);
        rules("t1", "t3", "t12");
        x.person(0, 0);
        x.person(2, 1);
        x.person(1, 2);
        due("year 0, t1", x.next(0), 1);
        due("year 0, t3, behind the last one", x.next(1), 0);
        due("year 0, t12", x.next(2), 2);
        int[] often = {0, 1, 2, 0, 1, 2, 0, 1, 2, 0, 1, 2, 0, 1};
        int[] third = {2, 0, 0, 0, 1, 1, 1, 2, 2, 2, 0, 0, 0, 1};
        int[] twelfth = {1, 2, 2, 2, 2, 2, 2, 2, 2, 2, 2, 2, 2, 0};
        for (int y = 0; y < often.length; y++) {
            due("t1, way in year " + y, x.of(0, 0), often[y]);
            due("t3, way in year " + y, x.of(1, 0), third[y]);
            due("t12, way in year " + y, x.of(2, 0), twelfth[y]);
            x.go(1);
        }
    }

    private void nextMixed() {
        begin("15, mixed");
        steady(4, 5, 12, 13);
        rules("(5?t1:s)", "(13?(5?s:t1):(99?n:s))", "(12?b:t1)", "s");
        x.person(0, 0);
        due("less", x.next(0), 1);
        x.plants(0, 1);
        due("not less", x.next(0), 1);
        x.lives(0, 1);
        due("less than 13, not than 5", x.next(0), 2);
        x.plants(0, 0);
        due("less than 5", x.next(0), 0);
        x.person(2, 3);
        x.plants(0, 3);
        due("13: the other one", x.next(0), 2);
        x.lives(0, 2);
        due("13: tries", x.next(0), 0);
        x.plants(0, 1);
        due("5: the best", x.next(0), 2);
    }

    private void nextRefused() {
        begin("15, refused");
        due("nobody", x.next(0), -1);
        steady(1);
        rules("s");
        x.person(0, 0);
        due("next(0)", x.next(0), 0);
        due("next(1)", x.next(1), -1);
        due("next(-1)", x.next(-1), -1);
        dueRefusals(3, 0, 0, 0, 0);
        due("no year has gone by", x.count(3), 0);
        due("nothing was brought", x.count(6), 0);
    }

    private void go() {
        begin("16");
        due("go(1)", x.go(1), -3);
        due("go(0)", x.go(0), -4);
        due("go(61)", x.go(61), -6);
        x.way(5, 1, 0, 0);
        x.way(2, 6, 0, 0);
        rules("n");
        x.sky(2, 0b01_00);
        x.person(0, 0);
        x.person(1, 0);
        due("go(1)", x.go(1), 1);
        due("all choose at once", x.of(0, 0), 1);
        due("all choose at once", x.of(1, 0), 0);
        // 5 and 2 in year 0, 6 and 1 in year 1
        due("go(1)", x.go(1), 2);
        due("of(0, 4)", x.of(0, 4), 11);
        due("of(1, 4)", x.of(1, 4), 3);
        due("go(60)", x.go(60), 62);
        due("of(0, 4)", x.of(0, 4), 341);
        due("of(1, 4)", x.of(1, 4), 93);
        due("go(-1)", x.go(-1), -4);
        due("go(61)", x.go(61), -6);
        due("count(3)", x.count(3), 62);
        dueRefusals(0, 0, 1, 2, 2);
    }

    private void share() {
        begin("17");
        due("share(0)", x.share(0), -1);
        steady(1, 2, 3);
        due("nobody yet", x.share(0), 0);
        rules("b");
        x.person(0, 0);
        x.person(0, 0);
        x.person(2, 0);
        due("share(0)", x.share(0), 2);
        due("share(1)", x.share(1), 0);
        due("share(2)", x.share(2), 1);
        due("share(3)", x.share(3), -1);
        due("share(-1)", x.share(-1), -1);
        x.go(1);
        due("share(2)", x.share(2), 3);
        dueRefusals(3, 0, 0, 0, 0);
    }

    private void fares() {
        begin("18");
        due("nobody", x.fares(1), -3);
        x.way(5, 1, 0, 0);
        x.way(2, 6, 0, 0);
        rules("s", "b");
        due("nobody", x.fares(60), -3);
        due("fares(0)", x.fares(0), -4);
        due("fares(61)", x.fares(61), -6);
        x.sky(2, 0b01_00);
        x.person(0, 0);
        x.person(1, 1);
        // year 0: 5 + 2, then both plant way 0: 1 + 1, 5 + 5, 1 + 1
        due("fares(1)", x.fares(1), 7);
        due("fares(2)", x.fares(2), 9);
        due("fares(4)", x.fares(4), 21);
        due("nothing changes", x.of(1, 0), 1);
        due("nothing changes", x.count(3), 0);
        due("nothing changes", x.count(6), 0);
        x.go(1);
        due("from now on", x.fares(1), 2);
        due("from now on", x.fares(3), 14);
        due("fares(60)", x.fares(60), 360);
        dueRefusals(0, 0, 2, 1, 1);
    }

    private void wrong() {
        begin("19");
        due("nobody", x.wrong(1), -3);
        due("wrong(0)", x.wrong(0), -4);
        due("wrong(61)", x.wrong(61), -6);
        x.way(5, 1, 3, 9);
        x.way(2, 6, 3, 9);
        rules("s", "b");
        // weathers 0, 1, 2, 3: way 0 is less than the best one in weather 1 alone
        x.sky(4, 0b11_10_01_00);
        x.person(0, 0);
        due("wrong(1)", x.wrong(1), 0);
        due("wrong(2)", x.wrong(2), 1);
        due("wrong(5)", x.wrong(5), 1);
        due("wrong(60)", x.wrong(60), 15);
        x.plants(0, 1);
        due("way 1 is as good in weathers 2, 3", x.wrong(4), 1);
        x.person(0, 1);
        // person 1 plants way 0 in years 0, 1, then way 1, too
        due("not while they differ", x.wrong(4), 0);
        due("when they do alike", x.wrong(5), 1);
        x.go(4);
        due("from now on", x.wrong(1), 1);
        dueRefusals(0, 0, 1, 1, 1);
    }

    private void alike() {
        begin("20");
        due("nobody", x.alike(1), -3);
        due("alike(0)", x.alike(0), -4);
        due("alike(61)", x.alike(61), -6);
        steady(1, 2);
        rules("s", "n");
        x.person(0, 0);
        due("one alone", x.alike(1), 0);
        x.person(1, 1);
        x.person(1, 1);
        // one more follows each year: 0 1 1, 0 0 1, 0 0 0
        due("alike(1)", x.alike(1), -9);
        due("behind the last one", x.alike(2), 2);
        due("alike(60)", x.alike(60), 2);
        x.go(1);
        due("from now on", x.alike(60), 1);
        x.go(1);
        due("at once", x.alike(60), 0);
        x.lives(2, 0);
        x.plants(2, 1);
        due("never", x.alike(60), -9);
        dueRefusals(0, 0, 1, 1, 1);
    }

    private void gain() {
        begin("21");
        due("nobody", x.gain(0, 0, 0), FAR - 1);
        steady(1, 5);
        rules("s", "t1", "b");
        x.person(0, 0);
        // 1, 5, 1, 5 against 1, 1, 1, 1
        due("gain(0, 1, 4)", x.gain(0, 1, 4), 8);
        due("gain(0, 1, 1)", x.gain(0, 1, 1), 0);
        due("by its own", x.gain(0, 0, 60), 0);
        x.plants(0, 1);
        due("a loss", x.gain(0, 1, 4), -8);
        x.lives(0, 1);
        due("the other way round", x.gain(0, 0, 4), 8);
        x.person(0, 0);
        // person 1 sees 5, 1, 5, 1 and brings 1, 5, 5, 5; only its own garden counts
        due("gain(1, 2, 4)", x.gain(1, 2, 4), 12);
        due("person 2", x.gain(2, 0, 4), FAR - 1);
        due("person -1", x.gain(-1, 0, 4), FAR - 1);
        due("rule 3", x.gain(0, 3, 0), FAR - 1);
        due("rule -1", x.gain(0, -1, 61), FAR - 1);
        due("n 0", x.gain(0, 0, 0), FAR - 4);
        due("n 61", x.gain(0, 0, 61), FAR - 6);
        due("of(1, 1)", x.of(1, 1), 0);
        dueRefusals(5, 0, 0, 1, 1);
    }

    private void rest() {
        begin("22");
        due("nobody", x.rest(1), -3);
        due("rest(0)", x.rest(0), -4);
        due("rest(61)", x.rest(61), -6);
        steady(1, 5);
        rules("s", "b", "t1");
        x.person(1, 0);
        x.person(0, 0);
        // person 1 gains 4 by the best seen, and by trying
        due("rest(1)", x.rest(1), -9);
        due("rest(2)", x.rest(2), 11);
        x.lives(1, 1);
        due("nobody gains", x.rest(2), -9);
        x.lives(1, 0);
        x.plants(0, 0);
        // nobody to copy, but trying helps person 0 first
        due("by persons first", x.rest(2), 2);
        x.lives(0, 2);
        // person 1 gains nothing by copying in 2 years, 4 in 3 years; by trying 4 at once
        due("then by rules", x.rest(2), 12);
        due("of(0, 1)", x.of(0, 1), 2);
        dueRefusals(0, 0, 1, 1, 1);
        begin("22, the first rule");
        steady(1, 5);
        rules("t1", "s");
        x.person(0, 1);
        x.person(0, 1);
        due("rest(2)", x.rest(2), 0);
        x.lives(0, 0);
        due("rest(2)", x.rest(2), 10);
        due("rest(3)", x.rest(3), 10);
    }

    private void oneGood() {
        steady(1, 5);
        rules("s", "b", "t1");
        x.person(1, 0);
        x.person(0, 1);
        x.person(0, 2);
    }

    private void ifAllAndBestRule() {
        begin("23, 24");
        due("no rule", x.ifAll(0, 0), -1);
        due("nobody", x.bestRule(1), -3);
        due("bestRule(0)", x.bestRule(0), -4);
        due("bestRule(61)", x.bestRule(61), -6);
        rules("s");
        due("nobody", x.ifAll(0, 1), -3);
        due("nobody, but n first", x.ifAll(0, 0), -4);
        due("nobody, but n first", x.ifAll(0, 61), -6);
        due("nobody", x.bestRule(1), -3);
        dueRefusals(1, 0, 3, 2, 2);
        begin("23, 24");
        oneGood();
        // 7 and 7; 7 and 15; 7 and 1 + 5 + 5
        due("all still", x.ifAll(0, 2), 14);
        due("all the best", x.ifAll(1, 2), 22);
        due("all try", x.ifAll(2, 2), 18);
        due("ifAll(3, 2)", x.ifAll(3, 2), -1);
        due("ifAll(-1, 2)", x.ifAll(-1, 2), -1);
        due("bestRule(2)", x.bestRule(2), 1);
        due("of several the least", x.bestRule(1), 0);
        due("of(2, 1)", x.of(2, 1), 2);
        x.plants(0, 0);
        due("only trying helps", x.bestRule(2), 2);
        begin("23, the first rule");
        steady(1, 5);
        rules("b");
        x.person(0, 0);
        x.person(1, 0);
        due("ifAll(0, 2)", x.ifAll(0, 2), 16);
        due("bestRule(2)", x.bestRule(2), 0);
    }

    private void bestPart() {
        begin("25, best");
        oneGood();
        // the first k copy, the others are still: 14, 14, 18, 22
        due("part(1, 0, 0, 2)", x.part(1, 0, 0, 2), 3);
        due("part(0, 1, 0, 2)", x.part(0, 1, 0, 2), 0);
        due("of several the least", x.part(1, 0, 0, 1), 0);
        // the first k still, the others try: 18, 22, 18, 14
        due("part(0, 2, 0, 2)", x.part(0, 2, 0, 2), 1);
        due("rule 3", x.part(3, 0, 2, 2), -1);
        due("rule -1", x.part(0, -1, 0, 2), -1);
        due("what 2", x.part(0, 0, 2, 0), -2);
        due("what -1", x.part(0, 0, -1, 61), -2);
        due("n 0", x.part(0, 0, 0, 0), -4);
        due("n 61", x.part(0, 0, 1, 61), -6);
        dueRefusals(2, 2, 0, 1, 1);
        begin("25, refused");
        rules("s");
        due("nobody", x.part(0, 0, 0, 1), -3);
        due("nobody", x.part(0, 0, 1, 1), -3);
        due("-4 ahead of -3", x.part(0, 0, 0, 0), -4);
        dueRefusals(0, 0, 2, 1, 0);
    }

    private void partAtRest() {
        begin("25, at rest");
        oneGood();
        // whoever is still with way 0 gains by copying, so all copy at rest
        due("part(1, 0, 1, 2)", x.part(1, 0, 1, 2), 3);
        due("part(0, 1, 1, 2)", x.part(0, 1, 1, 2), 0);
        due("nobody gains in one year", x.part(1, 0, 1, 1), 0);
        // person 0 is best off still, the others by trying
        due("part(0, 2, 1, 2)", x.part(0, 2, 1, 2), 1);
        due("part(2, 0, 1, 2)", x.part(2, 0, 1, 2), -9);
        due("a rule and itself", x.part(2, 2, 1, 2), 0);
        due("of(1, 1)", x.of(1, 1), 1);
    }

    private void turning() {
        x.way(3, 0, 1, 1);
        x.way(0, 4, 1, 1);
        rules("s", "t1", "t2");
        x.person(0, 0);
    }

    private void edge() {
        begin("26");
        turning();
        x.sky(3, 0b11_11_11);
        // in 4 years still has 6, 6, 9, 12 and trying 14, 7, 10, 6 with L 1, 2, 3, 4
        due("edge(1, 0, 1, 4)", x.edge(1, 0, 1, 4), 1);
        due("edge(0, 1, 1, 4)", x.edge(0, 1, 1, 4), 4);
        due("never better", x.edge(0, 0, 1, 4), -9);
        due("never better", x.edge(1, 0, 22, 60), -9);
        due("alike in the first year", x.edge(0, 1, 1, 1), -9);
        due("rule 3", x.edge(3, 0, 0, 0), -1);
        due("rule -1", x.edge(0, -1, 0, 61), -1);
        due("y 4", x.edge(0, 0, 4, 4), -1);
        due("y 9", x.edge(0, 0, 39, 4), -1);
        due("x 4", x.edge(0, 0, 40, 4), -1);
        due("below", x.edge(0, 0, -1, 4), -1);
        due("far below", x.edge(0, 0, -10, 4), -1);
        due("far above", x.edge(0, 0, Integer.MAX_VALUE, 4), -1);
        due("33", x.edge(0, 0, 33, 4), -9);
        due("n 0", x.edge(0, 0, 0, 0), -4);
        due("n 61", x.edge(0, 0, 0, 61), -6);
        due("the sky stays", x.count(4), 3);
        due("the sky stays", x.weather(0), 3);
        dueRefusals(8, 0, 0, 1, 1);
        begin("26, refused");
        rules("s");
        due("nobody", x.edge(0, 0, 0, 1), -3);
        due("-1 ahead of -3", x.edge(0, 0, 4, 1), -1);
    }

    private void greatestEdge() {
        begin("26, greatest");
        x.way(3, 0, 0, 0);
        x.way(2, 99, 0, 0);
        rules("s", "t99");
        x.person(0, 0);
        // t99 plants way 1 from year 1 on, which is better as soon as one year of weather 1 comes
        due("edge(0, 1, 1, 12)", x.edge(0, 1, 1, 12), 12);
        due("edge(0, 1, 1, 13)", x.edge(0, 1, 1, 13), -9);
        due("edge(1, 0, 10, 2)", x.edge(1, 0, 10, 2), 2);
    }

    private void edgeInLaterYears() {
        begin("26, later");
        turning();
        x.brings(1, 1, 4);
        due("t2 tries in year 0", x.edge(2, 0, 11, 2), 1);
        x.go(1);
        due("the first weather is in the first year", x.edge(1, 0, 1, 4), 1);
        due("the first weather is in the first year", x.edge(0, 1, 1, 4), 4);
        due("t2 tries in year 2 alone", x.edge(2, 0, 11, 2), -9);
        due("t2 tries in year 2", x.edge(2, 0, 11, 3), 1);
    }

    private void lessSeen() {
        begin("27");
        due("nobody", x.lessSeen(0, 1), FAR - 3);
        due("k -1", x.lessSeen(-1, 61), FAR - 4);
        due("n 0", x.lessSeen(8, 0), FAR - 4);
        due("k 8", x.lessSeen(8, 1), FAR - 6);
        due("n 61", x.lessSeen(0, 61), FAR - 6);
        dueRefusals(0, 0, 1, 2, 2);
        begin("27");
        steady(1, 5);
        rules("s", "b");
        x.person(1, 0);
        x.person(0, 0);
        x.person(0, 1);
        // person 2 copies person 0: 7 + 11 + 11; if it sees nobody, or person 1: 7 each year
        due("lessSeen(0, 3)", x.lessSeen(0, 3), -8);
        due("those of lower numbers", x.lessSeen(1, 3), -8);
        due("lessSeen(2, 3)", x.lessSeen(2, 3), 0);
        due("all, gone round", x.lessSeen(7, 3), 0);
        due("as told", x.of(2, 2), 255);
        x.sees(2, 0);
        due("more than now", x.lessSeen(2, 3), 8);
        x.show(1);
        due("shows go on", x.lessSeen(0, 3), 0);
        begin("27, gone round");
        steady(1, 5);
        rules("s", "b");
        x.person(0, 1);
        x.person(0, 0);
        x.person(1, 0);
        due("the first sees the last", x.lessSeen(1, 3), 0);
        due("the first sees nobody", x.lessSeen(0, 3), -8);
    }

    private void shown() {
        begin("28");
        due("nobody", x.shown(0, 1), FAR - 3);
        due("s -1", x.shown(-1, 61), FAR - 4);
        due("n 0", x.shown(25, 0), FAR - 4);
        due("s 25", x.shown(25, 1), FAR - 6);
        due("n 61", x.shown(24, 61), FAR - 6);
        dueRefusals(0, 0, 1, 2, 2);
        begin("28");
        steady(1, 5);
        rules("s", "b");
        x.person(1, 0);
        x.person(0, 1);
        x.sees(1, 0);
        // 6 each year, but 10 in the years behind a show
        due("shown(0, 3)", x.shown(0, 3), 0);
        due("shown(1, 3)", x.shown(1, 3), 8);
        due("year 0 is one of them", x.shown(24, 3), 8);
        x.go(1);
        due("year 2 is the second one", x.shown(2, 3), 4);
        due("not in years 1, 2, 3", x.shown(24, 3), 0);
        due("count(5)", x.count(5), 0);
        x.show(1);
        due("no shows then", x.shown(0, 3), -8);
        due("the same ones", x.shown(1, 3), 0);
        due("count(5)", x.count(5), 1);
    }

    private void blind() {
        begin("29");
        due("nobody", x.blind(1), -3);
        due("n 0", x.blind(0), -4);
        due("n 61", x.blind(61), -6);
        dueRefusals(0, 0, 1, 1, 1);
        steady(1, 5);
        rules("s", "n", "b");
        x.person(1, 0);
        x.person(0, 0);
        x.person(1, 1);
        // person 2 follows person 1 down, but person 0 if it does not see person 1
        due("blind(3)", x.blind(3), 1);
        due("of several the least", x.blind(1), 0);
        x.show(1);
        due("at shows, too", x.blind(3), 1);
        x.plants(2, 0);
        x.lives(2, 2);
        // person 2 copies person 0: 7 + 11 + 11 but without it 7 each year
        due("the least of those who do no harm", x.blind(3), 1);
        x.lives(1, 2);
        // persons 1 and 2 copy person 0; if nobody sees person 1, it sees others all the same
        due("it sees others itself", x.blind(3), 1);
    }

    private void imageAndRestore() {
        begin("30, 31");
        due("none yet", x.restore(), -3);
        x.way(5, 1, 0, 9);
        rules("s", "t1");
        x.person(0, 1);
        x.sees(0, 3);
        x.sky(3, 0b01_10_11);
        x.show(4);
        x.go(2);
        // 9 and 0 came in weathers 3 and 2
        due("image()", x.image(), 2);
        changeAll();
        x.feed(3, Checks.bytes("(5?"));
        x.share(9);
        x.go(0);
        due("restore()", x.restore(), 2);
        dueAsTaken();
        due("the text is not in it", x.count(7), 3);
        dueRefusals(1, 0, 1, 1, 0);
        due("the text goes on", Checks.rule(x, "s:b)"), 2);
        due("restore()", x.restore(), 2);
        changeAll();
        due("restore() again", x.restore(), 2);
        dueAsTaken();
        x.go(1);
        due("a new image", x.image(), 3);
        x.go(5);
        due("restore()", x.restore(), 3);
        due("of(0, 4)", x.of(0, 4), 10);
    }

    private void changeAll() {
        x.brings(0, 1, 50);
        x.way(7, 7, 7, 7);
        rules("b");
        x.person(1, 2);
        x.sees(0, 7);
        x.lives(0, 0);
        x.plants(0, 1);
        x.sky(2, 0);
        x.show(9);
        due("go(3)", x.go(3), 5);
    }

    private void dueAsTaken() {
        int[] counts = {1, 1, 2, 2, 3, 4, 9};
        for (int what = 0; what < counts.length; what++) {
            due("count(" + what + ") as taken", x.count(what), counts[what]);
        }
        int[] told = {0, 1, 3, 1, 9};
        for (int what = 0; what < told.length; what++) {
            due("of(0, " + what + ") as taken", x.of(0, what), told[what]);
        }
        due("weather(0) as taken", x.weather(0), 3);
        due("brings(0, 1) as taken", x.brings(0, 1, 1), 1);
    }

    private void count() {
        begin("32");
        steady(2, 3);
        rules("s", "s", "s");
        x.person(0, 0);
        x.person(1, 0);
        x.person(1, 0);
        x.person(1, 0);
        x.sky(5, 0);
        x.show(6);
        x.go(7);
        x.feed(8, 0);
        // (2 + 3 + 3 + 3) * 7
        int[] counts = {2, 4, 3, 7, 5, 6, 77, 8, -9, -9, -9, 0, 0, 0, 0, 0, 0, -9};
        for (int what = 0; what < counts.length; what++) {
            due("count(" + what + ")", x.count(what), counts[what]);
        }
        due("count(-1)", x.count(-1), -9);
        due("least", x.count(Integer.MIN_VALUE), -9);
        due("greatest", x.count(Integer.MAX_VALUE), -9);
        dueRefusals(0, 0, 0, 0, 0);
    }
}
