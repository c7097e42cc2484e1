/** The bounds of years that go by and of runs in mind, images and counts: promises 16 to 32. */
final class RunBoundsTest extends Trial {
    public static void main(String[] args) {
        RunBoundsTest test = new RunBoundsTest();
        test.years();
        test.gains();
        test.wholes();
        test.sight();
        test.images();
        test.checks.end();
    }

    private void years() {
        goYears();
        addedUp();
        allAtOnce();
        sharesOfWays();
        runsInMind();
        runsFromNow();
        faresLeastAndMost();
        wrongYears();
        wrongOfSeveral();
        alikeFromZero();
        alikeBehindTheLast();
        alikeAsItBegins();
        alikeNone();
    }

    private void gains() {
        gainLess();
        gainRefused();
        restFirst();
        restNone();
        restLast();
    }

    private void wholes() {
        allKeepOne();
        bestRuleOfSeveral();
        partsFromZeroToAll();
        bestPartOfSeveral();
        partAtRestLeast();
        partAtRestInParts();
        partAtRestNone();
        edgeLeast();
        edgeOfTwelve();
        edgeRound();
        edgeFirstYear();
        edgeInItsYear();
        edgeWeathers();
    }

    private void sight() {
        lessSeenOfNone();
        lessSeenRound();
        lessSeenOfAll();
        lessSeenThenLessNow();
        shownBounds();
        shownLessNow();
        blindOfSeveral();
        blindOfThoseWhoAreThere();
        blindButItself();
        blindAtShows();
    }

    private void images() {
        imageOfNothing();
        imageOfFewer();
        imageOfPeople();
        imageOfRules();
        imageButIt();
        imageButTheText();
        imageButRefusals();
        restoreNone();
        countBounds();
        countRefusals();
    }

    private void goYears() {
        sentence("n YEARS (1 .. 60) go by: the YEAR. -4; -6; -3 no PEOPLE.");
        due("nobody", x.go(1), -3);
        due("nobody", x.go(60), -3);
        due("nobody, n 0", x.go(0), -4);
        due("nobody, n 61", x.go(61), -6);
        due("count(3)", x.count(3), 0);
        steady(2);
        rules("s");
        due("still nobody", x.go(1), -3);
        x.person(0, 0);
        due("go(1)", x.go(1), 1);
        due("go(60)", x.go(60), 61);
        due("go(0)", x.go(0), -4);
        due("go(-1)", x.go(-1), -4);
        due("the least", x.go(LEAST), -4);
        due("go(61)", x.go(61), -6);
        due("the greatest", x.go(GREATEST), -6);
        due("count(3)", x.count(3), 61);
        due("count(6)", x.count(6), 122);
        dueRefusals(0, 0, 3, 4, 3);
    }

    private void addedUp() {
        sentence("each garden BRINGS by its WAY and the WEATHER of the YEAR; all that it brought is added up;");
        x.way(1, 10, 0, 99);
        x.way(2, 20, 0, 98);
        rules("s");
        planters(0, 0, 1);
        x.sky(4, 0b11_10_01_00);
        int[] first = {1, 11, 11, 110, 111};
        int[] second = {2, 22, 22, 120, 122};
        for (int y = 0; y < first.length; y++) {
            x.go(1);
            due("of(0, 4) behind year " + y, x.of(0, 4), first[y]);
            due("of(1, 4) behind year " + y, x.of(1, 4), second[y]);
            due("count(6) behind year " + y, x.count(6), first[y] + second[y]);
        }
    }

    private void allAtOnce() {
        sentence("then all choose by what they SEE of this YEAR, all at once; then YEAR is one more.");
        steady(1, 2, 3, 4);
        rules("n");
        planters(0, 0, 1, 2, 3);
        due("go(1)", x.go(1), 1);
        // each has what the one ahead of it had, the first one what the last had
        due("of(0, 0)", x.of(0, 0), 3);
        due("of(1, 0)", x.of(1, 0), 0);
        due("of(2, 0)", x.of(2, 0), 1);
        due("of(3, 0)", x.of(3, 0), 2);
        due("by the way planted ahead of choosing", x.of(0, 4), 1);
        due("of(3, 4)", x.of(3, 4), 4);
        x.go(3);
        due("round", x.of(0, 0), 0);
        due("all that it brought", x.of(0, 4), 10);
        due("all that all brought", x.count(6), 40);
    }

    private void sharesOfWays() {
        sentence("How many plant a WAY now. -1.");
        due("no ways", x.share(0), -1);
        steady(1, 2, 3, 4, 5, 6);
        rules("s");
        planters(0, 5, 5, 5, 5, 5, 5, 5, 5);
        due("share(5)", x.share(5), 8);
        due("share(0)", x.share(0), 0);
        due("share(6)", x.share(6), -1);
        due("share(-1)", x.share(-1), -1);
        due("the least", x.share(LEAST), -1);
        due("the greatest", x.share(GREATEST), -1);
        x.plants(7, 0);
        due("share(5) now", x.share(5), 7);
        due("share(0) now", x.share(0), 1);
        dueRefusals(5, 0, 0, 0, 0);
    }

    private int run(int which, int n) {
        switch (which) {
            case 0: return x.fares(n);
            case 1: return x.wrong(n);
            case 2: return x.alike(n);
            case 3: return x.gain(0, 1, n);
            case 4: return x.rest(n);
            case 5: return x.ifAll(1, n);
            case 6: return x.bestRule(n);
            case 7: return x.part(0, 1, 0, n);
            case 8: return x.part(0, 1, 1, n);
            case 9: return x.edge(0, 1, 12, n);
            case 10: return x.lessSeen(0, n);
            case 11: return x.shown(1, n);
            default: return x.blind(n);
        }
    }

    private void someWhoLive() {
        x.way(5, 1, 3, 2);
        x.way(2, 6, 1, 3);
        x.way(1, 2, 4, 4);
        rules("b", "t1", "(3?m:n)");
        x.sky(3, 0b10_01_00);
        planters(0, 0, 1);
        planters(1, 2, 2);
        planters(2, 1);
        x.sees(0, 6);
        x.go(2);
    }

    private void runsInMind() {
        sentence("RUNS of n YEARS (1 .. 60) are in mind, from now on.");
        for (int which = 0; which <= 12; which++) {
            int less = which == 3 || which == 10 || which == 11 ? FAR : 0;
            someWhoLive();
            due("call " + which + ", n 0", run(which, 0), less - 4);
            due("call " + which + ", the least n", run(which, LEAST), less - 4);
            due("call " + which + ", n 61", run(which, 61), less - 6);
            due("call " + which + ", the greatest n", run(which, GREATEST), less - 6);
            run(which, 1);
            run(which, 60);
            dueRefusals(0, 0, 0, 2, 2);
            dueAsSomeWhoLive();
            begin("runs in mind");
        }
    }

    /** Years 0 and 1 in weathers 0 and 1, and where all are then. */
    private void dueAsSomeWhoLive() {
        int[] counts = {3, 5, 3, 2, 3, 0, 21};
        for (int what = 0; what < counts.length; what++) {
            due("count(" + what + ") stays", x.count(what), counts[what]);
        }
        // year 0: ways 0 1 2 2 1 bring 5 2 1 1 2; year 1: ways 0 0 0 0 1 bring 1 1 1 1 6
        int[] ways = {0, 1, 1, 1, 0};
        int[] brought = {6, 3, 2, 2, 8};
        for (int p = 0; p < ways.length; p++) {
            due("of(" + p + ", 0) stays", x.of(p, 0), ways[p]);
            due("of(" + p + ", 4) stays", x.of(p, 4), brought[p]);
            due("of(" + p + ", 2) stays", x.of(p, 2), p == 0 ? 6 : 255);
        }
        due("weather(2) stays", x.weather(2), 2);
    }

    private void runsFromNow() {
        sentence("are in mind, from now on.");
        someWhoLive();
        int[] first = new int[13];
        for (int which = 0; which <= 12; which++) {
            first[which] = run(which, 7);
        }
        for (int other = 0; other <= 12; other++) {
            for (int which = 0; which <= 12; which++) {
                run(other, 5);
                due("call " + which + " behind call " + other, run(which, 7), first[which]);
            }
        }
    }

    private void faresLeastAndMost() {
        sentence("FARES: what all gardens bring in a RUN.");
        steady(99, 0);
        rules("s");
        planters(0, 0, 0, 0, 0, 0, 0, 0, 0);
        due("all of 99 in 60 years", x.fares(60), 99 * 8 * 60);
        due("in one year", x.fares(1), 99 * 8);
        x.go(60);
        due("what came ahead of it does not count", x.fares(60), 99 * 8 * 60);
        for (int p = 0; p < 8; p++) {
            x.plants(p, 1);
        }
        due("nothing", x.fares(60), 0);
    }

    private void wrongYears() {
        sentence("How many YEARS of a RUN are WRONG. -4; -6; -3.");
        due("nobody", x.wrong(1), -3);
        due("nobody, n 0", x.wrong(0), -4);
        due("nobody, n 61", x.wrong(61), -6);
        steady(4, 5);
        rules("s");
        x.person(0, 0);
        due("one alone is all", x.wrong(1), 1);
        due("every year", x.wrong(60), 60);
        x.plants(0, 1);
        due("no year", x.wrong(60), 0);
        x.brings(0, 0, 6);
        due("one alone with another way", x.wrong(60), 60);
        x.brings(0, 0, 4);
        planters(0, 1, 1, 1, 1, 1, 1, 0);
        due("all but the last", x.wrong(60), 0);
        for (int p = 0; p < 7; p++) {
            x.plants(p, 0);
        }
        due("all eight", x.wrong(60), 60);
        x.plants(0, 1);
        due("all but the first", x.wrong(60), 0);
        dueRefusals(0, 0, 1, 1, 1);
    }

    private void wrongOfSeveral() {
        sentence("WRONG is a YEAR in which all plant one WAY, but not one that BRINGS as much as the BEST WAY in its "
                + "WEATHER.");
        x.way(5, 5, 0, 5);
        x.way(5, 6, 0, 4);
        x.way(5, 6, 0, 9);
        rules("s");
        planters(0, 2, 2);
        // way 2 is never less than the best one, though never the least of several
        x.sky(4, 0b11_10_01_00);
        due("as much as the best way", x.wrong(4), 0);
        x.plants(0, 0);
        x.plants(1, 0);
        due("less in weathers 1, 3", x.wrong(4), 2);
        x.plants(0, 1);
        x.plants(1, 1);
        due("less in weather 3", x.wrong(4), 1);
        x.plants(0, 2);
        due("no one way", x.wrong(4), 0);
    }

    private void alikeFromZero() {
        sentence("(from 0 on; n is behind the last one)");
        steady(1, 2);
        rules("s", "b");
        x.person(0, 0);
        due("one alone", x.alike(1), 0);
        x.plants(0, 1);
        due("one alone with another way", x.alike(1), 0);
        x.plants(0, 0);
        planters(0, 0, 0, 0, 0, 0, 0, 0);
        due("all eight", x.alike(60), 0);
        x.plants(7, 1);
        due("all but the last", x.alike(60), -9);
        for (int p = 0; p < 7; p++) {
            x.lives(p, 1);
        }
        due("as the next year begins", x.alike(60), 1);
        due("behind the last one", x.alike(1), 1);
        x.go(1);
        due("from now on", x.alike(60), 0);
    }

    private void alikeBehindTheLast() {
        sentence("n is behind the last one");
        steady(1, 2);
        rules("s", "t60");
        x.person(0, 0);
        x.person(0, 1);
        x.go(1);
        // the second one tried in year 0 and tries in year 60 again: alike as year 61 begins
        due("alike(59)", x.alike(59), -9);
        due("alike(60)", x.alike(60), 60);
        x.go(1);
        due("alike(58)", x.alike(58), -9);
        due("alike(59)", x.alike(59), 59);
        due("alike(60)", x.alike(60), 59);
    }

    private void alikeAsItBegins() {
        sentence("as which begins all plant one WAY; -9 none.");
        steady(1, 2, 3);
        rules("s", "t1");
        x.person(2, 0);
        x.person(0, 1);
        // ways 2 0, 2 1, 2 2, 2 0, ..: alike as year 2 begins, no more as it has gone by
        due("alike(60)", x.alike(60), 2);
        due("alike(2)", x.alike(2), 2);
        due("alike(1)", x.alike(1), -9);
        x.go(2);
        due("at once", x.alike(1), 0);
        x.go(1);
        due("round again", x.alike(60), 2);
    }

    private void alikeNone() {
        sentence("ALIKE; -9. -4; -6; -3.");
        due("nobody", x.alike(1), -3);
        due("nobody, n 0", x.alike(0), -4);
        due("nobody, n 61", x.alike(61), -6);
        steady(1, 2);
        rules("t1");
        planters(0, 0, 1);
        due("none", x.alike(60), -9);
        due("none", x.alike(1), -9);
        dueRefusals(0, 0, 1, 1, 1);
    }

    private void gainLess() {
        sentence("what its own garden brings in a RUN, if it lives by that RULE (others by theirs), less what it brings "
                + "by its own.");
        steady(0, 99);
        rules("s", "t99", "b");
        planters(0, 0, 0, 0, 0, 0, 0, 0, 0);
        due("the greatest", x.gain(7, 1, 60), 59 * 99);
        due("in one year", x.gain(7, 1, 1), 0);
        due("by its own", x.gain(7, 0, 60), 0);
        x.plants(7, 1);
        due("the least", x.gain(7, 1, 60), -59 * 99);
        // the first one would copy the last, whose garden does not change by it
        due("its own garden alone", x.gain(0, 2, 60), 59 * 99);
        x.lives(7, 1);
        due("others by theirs", x.gain(0, 2, 60), 59 * 99);
        due("the last by STILL", x.gain(7, 0, 60), 59 * 99);
    }

    private void gainRefused() {
        sentence("Of gain(), lessSeen(), shown() REFUSALS are 1000000000 less (-1000000001 ..).");
        due("nobody", x.gain(0, 0, 1), -1000000001);
        due("k below", x.lessSeen(-1, 1), -1000000004);
        due("n above", x.lessSeen(0, 61), -1000000006);
        due("nobody", x.lessSeen(0, 1), -1000000003);
        due("s below", x.shown(-1, 1), -1000000004);
        due("s above", x.shown(25, 1), -1000000006);
        due("nobody", x.shown(0, 1), -1000000003);
        steady(1);
        rules("s");
        x.person(0, 0);
        due("n below", x.gain(0, 0, 0), -1000000004);
        due("n above", x.gain(0, 0, 61), -1000000006);
        due("no such rule, n below", x.gain(0, 1, 0), -1000000001);
        due("no such person, n above", x.gain(1, 0, 61), -1000000001);
        dueRefusals(3, 0, 2, 3, 3);
    }

    private void restFirst() {
        sentence("the first (by persons, then RULES) with a GAIN above 0, as 10 times the person and the RULE; -9 none.");
        steady(1, 5);
        rules("t1", "s", "t99");
        planters(1, 0, 0);
        due("person 0 by rule 0", x.rest(2), 0);
        x.lives(0, 0);
        due("person 1 by rule 0", x.rest(2), 10);
        x.lives(0, 1);
        // in three years t1 brings 1, 5, 1 and t99 brings 1, 5, 5: the first with any is told, not the most
        due("the first, not the most", x.rest(3), 0);
        x.lives(0, 0);
        due("then by t99", x.rest(3), 2);
    }

    private void restNone() {
        sentence("REST; -9. -4; -6; -3 no PEOPLE.");
        due("nobody", x.rest(1), -3);
        due("nobody, n 0", x.rest(0), -4);
        due("nobody, n 61", x.rest(61), -6);
        steady(1, 5);
        rules("s", "t1");
        planters(0, 0);
        due("a gain of 0 is not above 0", x.rest(1), -9);
        due("a gain", x.rest(2), 1);
        x.plants(0, 1);
        due("losses alone", x.rest(2), -9);
        due("losses alone", x.rest(60), -9);
        dueRefusals(0, 0, 1, 1, 1);
    }

    private void restLast() {
        sentence("as 10 times the person and the RULE");
        steady(1, 5);
        rules("s", "s", "s", "s", "s", "s", "s", "s", "s", "t99");
        planters(0, 1, 1, 1, 1, 1, 1, 1, 0);
        due("person 7 by rule 9", x.rest(2), 79);
        x.plants(7, 1);
        due("nobody", x.rest(2), -9);
        x.plants(0, 0);
        due("person 0 by rule 9", x.rest(2), 9);
    }

    private void allKeepOne() {
        sentence("FARES IF ALL keep a RULE. -1; -4; -6; -3.");
        due("no rule, n 0", x.ifAll(0, 0), -1);
        rules("s", "s", "s", "s", "s", "s", "s", "s", "s", "t99");
        due("nobody", x.ifAll(9, 1), -3);
        due("nobody, n 0", x.ifAll(9, 0), -4);
        due("nobody, n 61", x.ifAll(9, 61), -6);
        steady(0, 99);
        planters(0, 0, 0, 0, 0, 0, 0, 0, 0);
        due("the first rule", x.ifAll(0, 60), 0);
        due("the last rule", x.ifAll(9, 60), 8 * 59 * 99);
        due("rule 10", x.ifAll(10, 60), -1);
        due("rule -1", x.ifAll(-1, 60), -1);
        due("the least", x.ifAll(LEAST, 61), -1);
        due("the greatest", x.ifAll(GREATEST, 0), -1);
        due("all live as they did", x.of(7, 1), 0);
        dueRefusals(5, 0, 1, 1, 1);
    }

    private void bestRuleOfSeveral() {
        sentence("BEST RULE: that by which it is most, of several the least.");
        rules("s", "s", "t2", "t99", "t99", "s", "s", "s", "s", "t1");
        due("nobody", x.bestRule(1), -3);
        due("nobody, n 0", x.bestRule(0), -4);
        due("nobody, n 61", x.bestRule(61), -6);
        steady(1, 5, 6);
        planters(5, 0, 0);
        due("all the same", x.bestRule(1), 0);
        due("rules 2, 3, 4, 9", x.bestRule(2), 2);
        due("the last one alone", x.bestRule(3), 9);
        x.brings(0, 0, 0);
        x.brings(1, 0, 0);
        x.brings(2, 0, 0);
        due("nothing at all", x.bestRule(60), 0);
        x.plants(0, 2);
        x.brings(2, 0, 1);
        due("those who are still", x.bestRule(2), 0);
    }

    private void partsFromZeroToAll() {
        sentence("the first k PEOPLE live by a, the others by b.");
        steady(1, 5);
        rules("s", "t99");
        planters(0, 0, 0, 0, 0, 0, 0, 0, 0);
        due("all by a", x.part(1, 0, 0, 2), 8);
        due("all by b", x.part(0, 1, 0, 2), 0);
        x.plants(0, 1);
        x.plants(1, 1);
        x.plants(2, 1);
        due("the first three by a", x.part(0, 1, 0, 2), 3);
        due("nobody by a", x.part(1, 0, 0, 2), 8);
        x.plants(3, 1);
        x.plants(4, 1);
        due("the first five by a", x.part(0, 1, 0, 2), 5);
        due("whatever they live by", x.of(0, 1), 0);
    }

    private void bestPartOfSeveral() {
        sentence("BEST PART: the k (0 .. PEOPLE) with which it FARES best, of several the least.");
        steady(1, 5);
        rules("s", "t99");
        x.person(0, 0);
        due("one person, by a", x.part(1, 0, 0, 2), 1);
        due("one person, by b", x.part(0, 1, 0, 2), 0);
        due("all the same", x.part(1, 0, 0, 1), 0);
        due("a rule and itself", x.part(1, 1, 0, 60), 0);
        planters(0, 1, 0, 1);
        // ways 0 1 0 1 are still for the first k and change for the others: in year 1 they bring 12, 8, 12, 8, 12
        due("k 0, 2, 4 are the same, 1 and 3 less", x.part(0, 1, 0, 2), 0);
        due("k 1, 3 are more", x.part(1, 0, 0, 2), 1);
    }

    private void partAtRestLeast() {
        sentence("PART AT REST: the least k such that of the first k nobody has a GAIN above 0 by b, of the others nobody "
                + "by a (all in those PARTS); -9 none.");
        steady(1, 5);
        rules("s", "t99");
        planters(0, 0, 0, 0, 0, 0, 0, 0, 0);
        due("all by a", x.part(1, 0, 1, 2), 8);
        due("nobody by a", x.part(0, 1, 1, 2), 0);
        due("no gain is above 0", x.part(1, 0, 1, 1), 0);
        x.plants(0, 1);
        x.plants(1, 1);
        due("the first two are best still", x.part(0, 1, 1, 2), 2);
        due("the wrong ones come first", x.part(1, 0, 1, 2), -9);
    }

    private void partAtRestInParts() {
        sentence("(all in those PARTS); -9 none.");
        steady(1, 5);
        rules("s", "t1", "b");
        planters(0, 0, 0);
        // both try: 1 5 1 5 1 each, but who copies one who tries has 1 1 5 5 5; if both copy, 1 each year
        due("one copies, one tries", x.part(2, 1, 1, 5), 1);
        due("one tries, one copies", x.part(1, 2, 1, 5), 1);
        due("whatever they live by", x.of(0, 1) + x.of(1, 1), 0);
    }

    private void partAtRestNone() {
        sentence("BEST PART (what 0), PART AT REST (1; -9). -1 either; -2; -4; -6; -3.");
        due("no rules", x.part(0, 0, 2, 0), -1);
        rules("s", "t99");
        due("nobody", x.part(0, 1, 0, 1), -3);
        due("nobody", x.part(0, 1, 1, 60), -3);
        due("nobody, n 0", x.part(0, 1, 0, 0), -4);
        due("nobody, n 61", x.part(0, 1, 1, 61), -6);
        due("what 2, n 0", x.part(0, 1, 2, 0), -2);
        due("what -1, n 61", x.part(0, 1, -1, 61), -2);
        due("a 2, what 2", x.part(2, 0, 2, 1), -1);
        due("b 2, what 2", x.part(0, 2, 2, 1), -1);
        due("a -1", x.part(-1, 0, 0, 1), -1);
        due("b -1", x.part(0, -1, 0, 1), -1);
        dueRefusals(5, 2, 2, 1, 1);
        steady(1, 5);
        planters(0, 0, 1);
        due("none", x.part(0, 1, 1, 2), -9);
        due("the other way round", x.part(1, 0, 1, 2), 1);
    }

    private void edgeLeast() {
        sentence("SKY OF L (1 .. 12) and WEATHERS x, y: L YEARS x, then L YEARS y.");
        x.way(3, 0, 1, 1);
        x.way(0, 4, 1, 1);
        rules("s", "t1");
        x.person(0, 0);
        // by turns: still has 3 + 0, trying 3 + 4
        due("L 1", x.edge(1, 0, 1, 2), 1);
        // L 1: 3 + 0 and 3 + 4; L 2: 3 + 3 and 3 + 0
        due("L 2", x.edge(0, 1, 1, 2), 2);
        due("never", x.edge(0, 1, 22, 60), -9);
        due("the same rule", x.edge(1, 1, 1, 60), -9);
        due("in one year all are the same", x.edge(0, 1, 1, 1), -9);
    }

    private void edgeOfTwelve() {
        sentence("SKY OF L (1 .. 12)");
        x.way(3, 0, 0, 0);
        x.way(2, 99, 0, 0);
        rules("s", "t99");
        x.person(0, 0);
        // one year of weather 1 makes t99 better: L has to be as long as the run
        due("n 11", x.edge(0, 1, 1, 11), 11);
        due("n 12", x.edge(0, 1, 1, 12), 12);
        due("n 13", x.edge(0, 1, 1, 13), -9);
    }

    private void edgeRound() {
        sentence("L YEARS x, then L YEARS y");
        x.way(1, 0, 0, 0);
        x.way(0, 1, 0, 0);
        rules("t99", "s");
        x.person(0, 1);
        // still has a year's 1 in each weather 0, t99 in the first year and in each weather 1: still has to have
        // more than half of the years; 8 years of L 3 are 0 0 0 1 1 1 0 0
        due("n 8", x.edge(1, 0, 1, 8), 3);
        // of 12 years L 1, 2, 3 have 6 of weather 0, L 4 has 8
        due("n 12", x.edge(1, 0, 1, 12), 4);
        // of 60 years L 1, 2, 3 have 30, L 4 has 32
        due("n 60", x.edge(1, 0, 1, 60), 4);
        due("t99 needs half of them", x.edge(0, 1, 1, 60), 1);
    }

    private void edgeFirstYear() {
        sentence("(the first YEAR of the RUN has its first WEATHER); -9 none.");
        x.way(3, 0, 1, 1);
        x.way(0, 4, 1, 1);
        rules("s", "t1");
        x.sky(24, -1L);
        x.person(0, 0);
        for (int y = 0; y < 5; y++) {
            due("edge(1, 0, 1, 2) in year " + y, x.edge(1, 0, 1, 2), 1);
            due("edge(0, 1, 1, 2) in year " + y, x.edge(0, 1, 1, 2), 2);
            x.go(1);
        }
        due("the sky stays", x.count(4), 24);
        due("the sky stays", x.weather(0), 3);
        due("of(0, 3)", x.of(0, 3), 1);
    }

    private void edgeInItsYear() {
        sentence("the least L such that, if all keep a, it FARES better in a RUN than if all keep b, with that SKY");
        steady(1, 5);
        rules("s", "t3");
        x.person(0, 0);
        due("t3 tries in year 0", x.edge(1, 0, 0, 2), 1);
        x.go(1);
        due("not in year 1", x.edge(1, 0, 0, 2), -9);
        x.go(1);
        due("not in year 2", x.edge(1, 0, 0, 2), -9);
        x.go(1);
        due("but in year 3", x.edge(1, 0, 0, 2), 1);
        due("the year stays", x.count(3), 3);
    }

    private void edgeWeathers() {
        sentence("EDGE (WEATHERS as 10 times x, and y); -9. -1 (RULES, WEATHERS); -4; -6; -3.");
        rules("s", "t1");
        due("nobody", x.edge(0, 1, 33, 1), -3);
        due("nobody, n 0", x.edge(0, 1, 33, 0), -4);
        due("nobody, n 61", x.edge(0, 1, 33, 61), -6);
        int[] odd = {-1, -10, -11, 4, 9, 14, 34, 39, 40, 43, 44, 99, 100, 103, 133, LEAST, GREATEST};
        for (int weathers : odd) {
            due("weathers " + weathers, x.edge(0, 1, weathers, 0), -1);
        }
        due("a 2", x.edge(2, 0, 0, 61), -1);
        due("b 2", x.edge(0, 2, 0, 0), -1);
        due("a -1", x.edge(-1, 0, 0, 1), -1);
        due("b -1", x.edge(0, -1, 0, 1), -1);
        dueRefusals(odd.length + 4, 0, 1, 1, 1);
        x.way(0, 0, 0, 0);
        x.way(1, 2, 3, 4);
        x.person(0, 0);
        for (int weathers = 0; weathers <= 33; weathers++) {
            boolean fits = weathers % 10 < 4;
            due("weathers " + weathers, x.edge(1, 0, weathers, 2), fits ? 1 : -1);
        }
    }

    /** Everyone sees all and copies at once what the last one has. */
    private void allCopyTheLast(int people) {
        steady(1, 5);
        rules("b");
        for (int p = 0; p < people; p++) {
            x.person(p == people - 1 ? 1 : 0, 0);
        }
    }

    private void lessSeenOfNone() {
        sentence("LESS SEEN. -4 (k, n); -6; -3.");
        due("nobody", x.lessSeen(0, 1), FAR - 3);
        due("nobody", x.lessSeen(7, 60), FAR - 3);
        due("k -1, n 61", x.lessSeen(-1, 61), FAR - 4);
        due("k 8, n 0", x.lessSeen(8, 0), FAR - 4);
        due("k 8", x.lessSeen(8, 1), FAR - 6);
        due("n 61", x.lessSeen(7, 61), FAR - 6);
        due("the least k", x.lessSeen(LEAST, 1), FAR - 4);
        due("the greatest k", x.lessSeen(GREATEST, 1), FAR - 6);
        due("the least n", x.lessSeen(8, LEAST), FAR - 4);
        due("the greatest n", x.lessSeen(0, GREATEST), FAR - 6);
        dueRefusals(0, 0, 2, 4, 4);
        allCopyTheLast(1);
        due("one alone, k 0", x.lessSeen(0, 60), 0);
        due("one alone, k 7", x.lessSeen(7, 60), 0);
    }

    private void lessSeenRound() {
        sentence("all see just themselves and the k PEOPLE ahead of them (by numbers, gone round)");
        allCopyTheLast(8);
        // now all eight have way 1 from year 1 on; with k 0 only the last has
        due("k 0", x.lessSeen(0, 2), -28);
        // the first one sees the last, too; then the last and the first
        due("k 1", x.lessSeen(1, 2), -24);
        due("k 2", x.lessSeen(2, 2), -20);
        due("k 6", x.lessSeen(6, 2), -4);
        due("k 7", x.lessSeen(7, 2), 0);
        due("k 1: one more each year", x.lessSeen(1, 3), -24 - 20);
        due("all see as they did", x.of(0, 2), 255);
        begin("less seen, those of lower numbers");
        steady(1, 5);
        rules("s", "b");
        x.person(1, 0);
        x.person(0, 1);
        x.person(0, 0);
        // the second one copies the first
        due("k 1", x.lessSeen(1, 2), 0);
        x.plants(0, 0);
        x.plants(2, 1);
        due("k 1", x.lessSeen(1, 2), -4);
        x.show(1);
        due("k 1, shows go on", x.lessSeen(1, 2), 0);
    }

    private void lessSeenOfAll() {
        sentence("LESS SEEN by k (0 .. 7)");
        allCopyTheLast(3);
        due("k 0", x.lessSeen(0, 2), -8);
        due("k 1: the last and the first", x.lessSeen(1, 2), -4);
        for (int k = 2; k <= 7; k++) {
            due("all are seen, k " + k, x.lessSeen(k, 2), 0);
        }
        x.sees(0, 0);
        x.sees(1, 0);
        due("more than now", x.lessSeen(7, 2), 8);
    }

    private void lessSeenThenLessNow() {
        sentence("FARES then less FARES now.");
        steady(0, 99);
        rules("b");
        planters(0, 0, 0, 0, 0, 0, 0, 0, 1);
        due("the least", x.lessSeen(0, 60), -7 * 59 * 99);
        due("nothing in one year", x.lessSeen(0, 1), 0);
        for (int p = 0; p < 8; p++) {
            x.sees(p, 0);
        }
        due("the greatest", x.lessSeen(7, 60), 7 * 59 * 99);
        due("as now", x.lessSeen(0, 60), 0);
    }

    private void shownLessNow() {
        sentence("SHOWN: FARES with SHOW s less FARES now.");
        steady(0, 99);
        rules("b");
        planters(0, 0, 0, 0, 0, 0, 0, 0, 1);
        for (int p = 0; p < 8; p++) {
            x.sees(p, 0);
        }
        due("the greatest", x.shown(1, 60), 7 * 59 * 99);
        x.show(1);
        due("the least", x.shown(0, 60), -7 * 59 * 99);
        due("as now", x.shown(1, 60), 0);
        due("nothing in one year", x.shown(0, 1), 0);
    }

    private void shownBounds() {
        sentence("SHOWN. -4 (s, n); -6; -3.");
        due("nobody", x.shown(0, 1), FAR - 3);
        due("nobody", x.shown(24, 60), FAR - 3);
        due("s -1, n 61", x.shown(-1, 61), FAR - 4);
        due("s 25, n 0", x.shown(25, 0), FAR - 4);
        due("s 25", x.shown(25, 1), FAR - 6);
        due("n 61", x.shown(24, 61), FAR - 6);
        due("the least s", x.shown(LEAST, 1), FAR - 4);
        due("the greatest s", x.shown(GREATEST, 1), FAR - 6);
        dueRefusals(0, 0, 2, 3, 3);
        allCopyTheLast(2);
        x.sees(0, 0);
        x.go(1);
        // from year 1 on: 6 each year, 10 from the year behind the first show on
        due("s 0", x.shown(0, 60), 0);
        due("s 1", x.shown(1, 60), 59 * 4);
        due("s 24, not yet", x.shown(24, 24), 0);
        due("s 24, behind year 24", x.shown(24, 25), 4);
        due("s 24", x.shown(24, 60), 36 * 4);
        due("the show stays", x.count(5), 0);
    }

    private void blindOfSeveral() {
        sentence("it FARES best, of several the least.");
        due("nobody", x.blind(1), -3);
        due("nobody, n 0", x.blind(0), -4);
        due("nobody, n 61", x.blind(61), -6);
        dueRefusals(0, 0, 1, 1, 1);
        steady(1, 5);
        rules("s", "n");
        planters(0, 1);
        due("one alone", x.blind(60), 0);
        planters(0, 1, 1, 1, 1, 1, 1, 1);
        due("all the same", x.blind(60), 0);
        // the first one follows the last one down, if it sees it
        x.lives(0, 1);
        x.plants(7, 0);
        due("the last one", x.blind(2), 7);
        due("not in one year", x.blind(1), 0);
    }

    private void blindOfThoseWhoAreThere() {
        sentence("of all PEOPLE that one without whom");
        x.way(0, 2, 0, 0);
        x.way(2, 0, 0, 0);
        rules("m", "n", "s");
        x.sky(2, 0b01_00);
        x.person(0, 0);
        x.person(1, 1);
        x.person(1, 2);
        // now 4 + 2 + 6; without any of them 4 + 0 + 6, so that nobody hidden at all would be best
        due("fares(3)", x.fares(3), 12);
        due("blind(3)", x.blind(3), 0);
    }

    private void blindButItself() {
        sentence("(nobody SEES it, but itself, at SHOWS, too)");
        steady(1, 5);
        rules("m", "s");
        x.person(1, 0);
        x.person(0, 1);
        // one each: its own; if it did not see itself, it would follow the other one
        due("it sees itself", x.blind(3), 0);
        begin("blind, but it sees the others");
        steady(1, 5);
        rules("b", "s");
        x.person(0, 0);
        x.person(1, 1);
        // without the second one the first does not copy it
        due("it sees the others", x.blind(3), 0);
        x.plants(0, 1);
        x.plants(1, 0);
        x.lives(0, 1);
        x.lives(1, 0);
        due("it sees the others", x.blind(3), 1);
    }

    private void blindAtShows() {
        sentence("at SHOWS, too");
        steady(1, 5);
        rules("s", "n");
        planters(1, 1);
        planters(0, 0, 0, 1);
        x.sees(0, 0);
        due("it sees nobody", x.blind(3), 0);
        x.plants(3, 0);
        x.plants(2, 1);
        x.show(1);
        // at shows it follows the last one down; without that one the third, who plants way 1
        due("the last one is not seen", x.blind(3), 3);
        // 12 + 8 + 8; without the last one 12 each year
        due("in mind alone", x.fares(3), 28);
    }

    private void imageOfNothing() {
        sentence("THE IMAGE: all that there is");
        due("image()", x.image(), 0);
        steady(1, 5, 5, 5, 5, 5);
        rules("s", "s", "s", "s", "s", "s", "s", "s", "s", "s");
        planters(9, 5, 5, 5, 5, 5, 5, 5, 5);
        x.sees(0, 0);
        x.sky(24, -1L);
        x.show(24);
        x.go(60);
        due("restore()", x.restore(), 0);
        for (int what = 0; what < 8; what++) {
            due("count(" + what + ")", x.count(what), what == 4 ? 1 : 0);
        }
        due("weather(0)", x.weather(0), 0);
        due("no ways", x.bestWay(0), -3);
        due("nobody", x.of(0, 0), -1);
        due("the first way", x.way(2, 0, 0, 0), 0);
        due("the first rule", Checks.rule(x, "t1"), 0);
        due("the first person", x.person(0, 0), 0);
        due("nothing is left of another", x.of(0, 2), 255);
        due("nothing is left of another", x.of(0, 4), 0);
        due("nothing is left of another", x.of(0, 3), 2);
    }

    private void imageOfFewer() {
        sentence("It is RESTORED");
        steady(3, 2, 9);
        rules("b", "m", "n");
        x.person(1, 0);
        x.image();
        planters(0, 2, 2, 2, 2, 2, 2, 2);
        due("it sees the others", x.next(0), 2);
        x.restore();
        for (int r = 0; r < 3; r++) {
            x.lives(0, r);
            due("those who are gone are not seen, rule " + r, x.next(0), 1);
        }
        due("they do not plant", x.share(2), 0);
        due("they bring nothing", x.fares(1), 2);
    }

    private void imageOfPeople() {
        sentence("THE IMAGE is taken: the YEAR.");
        steady(1, 2, 3, 4, 5, 6);
        rules("s", "s", "s", "s", "s", "s", "s", "s");
        for (int p = 0; p < 8; p++) {
            x.person(p % 6, p);
            x.sees(p, 30 * p);
        }
        x.go(60);
        due("image()", x.image(), 60);
        for (int p = 0; p < 8; p++) {
            x.plants(p, 5 - p % 6);
            x.lives(p, 7 - p);
            x.sees(p, 255);
        }
        x.go(1);
        due("restore()", x.restore(), 60);
        for (int p = 0; p < 8; p++) {
            int[] told = {p % 6, p, 30 * p, p % 6 + 1, (p % 6 + 1) * 60};
            for (int what = 0; what <= 4; what++) {
                due("of(" + p + ", " + what + ")", x.of(p, what), told[what]);
            }
        }
    }

    private void imageOfRules() {
        sentence("It is RESTORED: the YEAR.");
        steady(1, 2);
        x.image();
        rules("s");
        x.person(0, 0);
        due("the rule of then, in a run", x.fares(2), 2);
        x.restore();
        rules("t1");
        x.person(0, 0);
        due("the rule of now", x.next(0), 1);
        due("the rule of now, in a run", x.fares(2), 3);
        x.image();
        rules("s", "s", "s");
        x.restore();
        due("count(2)", x.count(2), 1);
        due("the rule as taken", x.next(0), 1);
    }

    private void imageButIt() {
        sentence("all that there is, but it, the TEXT, REFUSALS.");
        steady(3);
        rules("s");
        x.person(0, 0);
        due("image()", x.image(), 0);
        x.go(5);
        due("restore()", x.restore(), 0);
        x.go(7);
        due("it is there still", x.restore(), 0);
        x.go(9);
        due("a later one instead", x.image(), 9);
        x.brings(0, 0, 4);
        x.go(1);
        due("restore()", x.restore(), 9);
        due("what the way brings", x.of(0, 3), 3);
        due("what it brought", x.of(0, 4), 27);
        due("again", x.restore(), 9);
    }

    private void imageButTheText() {
        sentence("but it, the TEXT, REFUSALS.");
        x.feed(1, 't');
        x.image();
        x.feed(1, '7');
        x.restore();
        due("count(7)", x.count(7), 2);
        due("the text of now", x.rule(), 0);
        x.feed(3, Checks.bytes("(1?"));
        x.image();
        due("a fault", x.rule(), -23);
        x.restore();
        due("it does not come again", x.count(7), 0);
    }

    private void imageButRefusals() {
        sentence("the TEXT, REFUSALS.");
        x.share(0);
        x.image();
        x.share(0);
        x.go(0);
        x.restore();
        dueRefusals(2, 0, 0, 1, 0);
    }

    private void restoreNone() {
        sentence("It is RESTORED: the YEAR. -3 there is none.");
        due("none", x.restore(), -3);
        due("none", x.restore(), -3);
        dueRefusals(0, 0, 2, 0, 0);
        x.image();
        due("there is one", x.restore(), 0);
        dueRefusals(0, 0, 2, 0, 0);
    }

    private void countBounds() {
        sentence("-9 for another what.");
        int[] others = {-1, -9, 8, 9, 10, 17, 18, 20, LEAST, GREATEST};
        for (int what : others) {
            due("count(" + what + ")", x.count(what), -9);
        }
        dueRefusals(0, 0, 0, 0, 0);
    }

    private void countRefusals() {
        sentence("11 .. 16 REFUSALS -1 .. -6.");
        x.share(0);
        dueRefusals(1, 0, 0, 0, 0);
        x.bestWay(0);
        x.go(1);
        dueRefusals(1, 0, 2, 0, 0);
        x.go(0);
        x.go(0);
        x.shown(-1, 0);
        dueRefusals(1, 0, 2, 3, 0);
        x.go(61);
        x.show(25);
        x.lessSeen(8, 61);
        x.feed(9, 0);
        dueRefusals(1, 0, 2, 3, 4);
        steady(1);
        rules("s");
        x.person(0, 0);
        for (int i = 0; i < 5; i++) {
            x.of(0, 5);
        }
        dueRefusals(1, 5, 2, 3, 4);
        x.gain(1, 0, 1);
        dueRefusals(2, 5, 2, 3, 4);
    }
}
