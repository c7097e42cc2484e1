import java.util.ArrayList;
import java.util.Arrays;
import java.util.List;

/**
 * Every call with every choice of numbers at and around its bounds, on islands from empty to full: the first refusal
 * in the order in which the document tells them, counted once, and nothing else has changed.
 */
final class RefusalsTest {
    private interface Asked {
        int of(YamIsland x, int[] v);
    }

    /** How much an island has; some calls are refused by that alone. */
    private static final class Place {
        final String name;
        final int ways;
        final int rules;
        final int people;
        final int text;
        final boolean image;

        Place(String name, int ways, int rules, int people, int text, boolean image) {
            this.name = name;
            this.ways = ways;
            this.rules = rules;
            this.people = people;
            this.text = text;
            this.image = image;
        }

        YamIsland island() {
            YamIsland x = new YamIsland();
            for (int w = 0; w < ways; w++) {
                x.way(w + 1, 9 - w, 2 * w, 50);
            }
            for (int r = 0; r < rules; r++) {
                Checks.rule(x, r % 2 == 0 ? "t" + (r + 1) : "b");
            }
            for (int p = 0; p < people; p++) {
                x.person(p % ways, p % rules);
            }
            if (people > 0) {
                x.sky(people * 3, 0x0123456789ABL);
                x.show(people * 3);
                x.sees(0, 170);
                x.go(7);
            }
            if (image) {
                x.image();
            }
            Checks.feed(x, "(11?(2?(3?t10:t20):m):n)".substring(0, text));
            return x;
        }
    }

    /** The numbers that a call takes at one place; those of people and the like depend on who is there. */
    private enum Kind {
        WAY, RULE, PERSON, WEATHER, BROUGHT, SKY, YEAR, FEED, BITS, SHOW, OF, YEARS, PART, AHEAD, TWO_WEATHERS;

        int least() {
            return this == SKY || this == FEED || this == YEARS ? 1 : 0;
        }

        int greatest(Place at) {
            switch (this) {
                case WAY: return at.ways - 1;
                case RULE: return at.rules - 1;
                case PERSON: return at.people - 1;
                case WEATHER: return 3;
                case BROUGHT: return 99;
                case SKY: case SHOW: return 24;
                case YEAR: return 999999;
                case FEED: return 8;
                case BITS: return 255;
                case OF: return 4;
                case YEARS: return 60;
                case PART: return 1;
                case AHEAD: return 7;
                default: return 33;
            }
        }

        boolean fits(Place at, int v) {
            return v >= least() && v <= greatest(at) && (this != TWO_WEATHERS || v % 10 <= 3);
        }

        int[] around(Place at) {
            if (this == TWO_WEATHERS) {
                return new int[] {Integer.MIN_VALUE, -10, -1, 0, 3, 4, 12, 29, 30, 33, 34, 40, Integer.MAX_VALUE};
            }
            int least = least();
            int greatest = greatest(at);
            return new int[] {Integer.MIN_VALUE, least - 1, least, greatest, greatest + 1, Integer.MAX_VALUE};
        }
    }

    /** One of the refusals of a call. */
    private static final class Reason {
        final int code;
        final String why;
        final int[] places;

        Reason(int code, String why, int... places) {
            this.code = code;
            this.why = why;
            this.places = places;
        }

        boolean holds(Place at, Kind[] kinds, int[] v) {
            switch (why) {
                case "no people": return at.people == 0;
                case "no ways": return at.ways == 0;
                case "no image": return !at.image;
                case "six ways": return at.ways == 6;
                case "ten rules": return at.rules == 10;
                case "eight people": return at.people == 8;
                case "above 24": return at.text + v[0] > 24;
                default: return anyOutside(at, kinds, v);
            }
        }

        private boolean anyOutside(Place at, Kind[] kinds, int[] v) {
            boolean any = false;
            for (int place : places) {
                switch (why) {
                    case "below": any |= v[place] < kinds[place].least(); break;
                    case "above": any |= v[place] > kinds[place].greatest(at); break;
                    default: any |= !kinds[place].fits(at, v[place]);
                }
            }
            return any;
        }
    }

    /** A call, what it takes, and its refusals in their order. */
    private static final class Row {
        final String name;
        final Asked asked;
        final Kind[] kinds;
        final List<Reason> reasons = new ArrayList<>();
        int less;

        Row(String name, Asked asked, Kind... kinds) {
            this.name = name;
            this.asked = asked;
            this.kinds = kinds;
        }

        Row no(int code, String why, int... places) {
            reasons.add(new Reason(code, why, places));
            return this;
        }

        /** -4 and -6 of the numbers told. */
        Row bounds(int... places) {
            return no(-4, "below", places).no(-6, "above", places);
        }

        /** A run: its years, then that somebody is there. */
        Row run(int... places) {
            return bounds(places).no(-3, "no people");
        }

        Row far() {
            less = -1000000000;
            return this;
        }

        int refusal(Place at, int[] v) {
            for (Reason reason : reasons) {
                if (reason.holds(at, kinds, v)) {
                    return reason.code;
                }
            }
            return 0;
        }
    }

    private static final Place[] PLACES = {
        new Place("empty", 0, 0, 0, 0, false),
        new Place("ways alone", 2, 0, 0, 17, true),
        new Place("rules alone", 0, 2, 0, 16, false),
        new Place("nobody", 3, 2, 0, 23, true),
        new Place("one", 1, 1, 1, 0, false),
        new Place("some", 3, 4, 5, 22, true),
        new Place("full", 6, 10, 8, 24, true),
    };

    private final Checks checks = new Checks();
    private final List<Row> rows = new ArrayList<>();

    public static void main(String[] args) {
        RefusalsTest test = new RefusalsTest();
        test.tellSettings();
        test.tellPeople();
        test.tellRuns();
        for (Place at : PLACES) {
            for (Row row : test.rows) {
                test.askAll(at, row);
            }
        }
        test.checks.end();
    }

    private Row row(String name, Asked asked, Kind... kinds) {
        Row row = new Row(name, asked, kinds);
        rows.add(row);
        return row;
    }

    private void tellSettings() {
        row("way", (x, v) -> x.way(v[0], v[1], v[2], v[3]), Kind.BROUGHT, Kind.BROUGHT, Kind.BROUGHT, Kind.BROUGHT)
                .bounds(0, 1, 2, 3).no(-6, "six ways");
        row("brings", (x, v) -> x.brings(v[0], v[1], v[2]), Kind.WAY, Kind.WEATHER, Kind.BROUGHT)
                .no(-1, "outside", 0, 1).bounds(2);
        row("bestWay", (x, v) -> x.bestWay(v[0]), Kind.WEATHER).no(-1, "outside", 0).no(-3, "no ways");
        row("sky", (x, v) -> x.sky(v[0], -1), Kind.SKY).bounds(0);
        row("weather", (x, v) -> x.weather(v[0]), Kind.YEAR).bounds(0);
        row("feed", (x, v) -> x.feed(v[0], -1), Kind.FEED).bounds(0).no(-6, "above 24");
        row("rule", (x, v) -> x.rule()).no(-6, "ten rules");
        row("show", (x, v) -> x.show(v[0]), Kind.SHOW).bounds(0);
        row("image", (x, v) -> x.image());
        row("restore", (x, v) -> x.restore()).no(-3, "no image");
    }

    private void tellPeople() {
        row("person", (x, v) -> x.person(v[0], v[1]), Kind.WAY, Kind.RULE)
                .no(-1, "outside", 0, 1).no(-6, "eight people");
        row("sees", (x, v) -> x.sees(v[0], v[1]), Kind.PERSON, Kind.BITS).no(-1, "outside", 0).bounds(1);
        row("lives", (x, v) -> x.lives(v[0], v[1]), Kind.PERSON, Kind.RULE).no(-1, "outside", 0, 1);
        row("plants", (x, v) -> x.plants(v[0], v[1]), Kind.PERSON, Kind.WAY).no(-1, "outside", 0, 1);
        row("of", (x, v) -> x.of(v[0], v[1]), Kind.PERSON, Kind.OF).no(-1, "outside", 0).no(-2, "outside", 1);
        row("next", (x, v) -> x.next(v[0]), Kind.PERSON).no(-1, "outside", 0);
        row("share", (x, v) -> x.share(v[0]), Kind.WAY).no(-1, "outside", 0);
    }

    private void tellRuns() {
        row("go", (x, v) -> x.go(v[0]), Kind.YEARS).run(0);
        row("fares", (x, v) -> x.fares(v[0]), Kind.YEARS).run(0);
        row("wrong", (x, v) -> x.wrong(v[0]), Kind.YEARS).run(0);
        row("alike", (x, v) -> x.alike(v[0]), Kind.YEARS).run(0);
        row("gain", (x, v) -> x.gain(v[0], v[1], v[2]), Kind.PERSON, Kind.RULE, Kind.YEARS)
                .no(-1, "outside", 0, 1).bounds(2).far();
        row("rest", (x, v) -> x.rest(v[0]), Kind.YEARS).run(0);
        row("ifAll", (x, v) -> x.ifAll(v[0], v[1]), Kind.RULE, Kind.YEARS).no(-1, "outside", 0).run(1);
        row("bestRule", (x, v) -> x.bestRule(v[0]), Kind.YEARS).run(0);
        row("part", (x, v) -> x.part(v[0], v[1], v[2], v[3]), Kind.RULE, Kind.RULE, Kind.PART, Kind.YEARS)
                .no(-1, "outside", 0, 1).no(-2, "outside", 2).run(3);
        row("edge", (x, v) -> x.edge(v[0], v[1], v[2], v[3]), Kind.RULE, Kind.RULE, Kind.TWO_WEATHERS, Kind.YEARS)
                .no(-1, "outside", 0, 1, 2).run(3);
        row("lessSeen", (x, v) -> x.lessSeen(v[0], v[1]), Kind.AHEAD, Kind.YEARS).run(0, 1).far();
        row("shown", (x, v) -> x.shown(v[0], v[1]), Kind.SHOW, Kind.YEARS).run(0, 1).far();
        row("blind", (x, v) -> x.blind(v[0]), Kind.YEARS).run(0);
    }

    private void askAll(Place at, Row row) {
        List<Integer> untouched = all(at.island());
        askFrom(at, row, untouched, new int[row.kinds.length], 0);
    }

    private void askFrom(Place at, Row row, List<Integer> untouched, int[] v, int place) {
        if (place == v.length) {
            ask(at, row, untouched, v);
            return;
        }
        for (int number : row.kinds[place].around(at)) {
            v[place] = number;
            askFrom(at, row, untouched, v, place + 1);
        }
    }

    private void ask(Place at, Row row, List<Integer> untouched, int[] v) {
        String call = at.name + ": " + row.name + Arrays.toString(v);
        YamIsland x = at.island();
        int[] before = refusals(x);
        int answer = row.asked.of(x, v);
        int[] after = refusals(x);
        int refusal = row.refusal(at, v);
        if (refusal == 0) {
            checks.dueTrue(call + " answered " + answer + ", no refusal", !isRefusal(answer - row.less));
        } else {
            checks.due(call, answer, row.less + refusal);
            before[-refusal]++;
        }
        checks.dueTrue(call + " counts it once", Arrays.equals(before, after));
        if (refusal != 0) {
            checks.dueTrue(call + " changes nothing", all(x).equals(untouched));
        }
    }

    private static boolean isRefusal(int answer) {
        return answer >= -6 && answer <= -1;
    }

    /** At the numbers' own places: -1 at 1 and so on. */
    private static int[] refusals(YamIsland x) {
        int[] counts = new int[7];
        for (int i = 1; i <= 6; i++) {
            counts[i] = x.count(10 + i);
        }
        return counts;
    }

    /** All that an island has but its refusals. It is used up by that. */
    private static List<Integer> all(YamIsland x) {
        List<Integer> all = new ArrayList<>();
        for (int what = 0; what <= 7; what++) {
            all.add(x.count(what));
        }
        for (int y = 0; y < 24; y++) {
            all.add(x.weather(y));
        }
        for (int p = 0; p < 8; p++) {
            for (int what = 0; what <= 4; what++) {
                all.add(x.of(p, what));
            }
            all.add(x.next(p));
        }
        for (int r = 0; r < 10; r++) {
            all.add(x.lives(0, r));
            all.add(x.next(0));
        }
        for (int i = 0; i < 24; i++) {
            all.add(x.brings(i / 4, i % 4, 0));
        }
        all.add(x.rule());
        all.add(x.restore());
        all.add(x.count(6));
        return all;
    }
}
