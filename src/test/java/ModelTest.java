import java.util.Random;

/** Long runs of calls, drawn with fixed seeds, each answered by the class and by the plain model. */
final class ModelTest {
    private static final String[] TEXTS = {
        "s", "b", "m", "n", "t1", "t2", "t3", "t7", "(5?b:s)", "(9?t1:m)", "(50?(20?t2:n):b)", "(3?s:(7?m:t4))",
        "(1?s:b)", "(99?n:s)", "(40?(30?(20?b:m):n):s)", "(6?t11:(8?b:t99))", "t10", "(10?m:b)",
    };
    private static final String SIGNS = "sbmnt(?:)0123456789x";

    private final Random random;
    private final YamIsland x = new YamIsland();
    private final Model m = new Model();
    private final Checks checks;
    private final int brightest;
    private String call;
    private int got;
    private int want;

    private ModelTest(long seed, Checks checks) {
        this.random = new Random(seed);
        this.checks = checks;
        this.brightest = random.nextBoolean() ? 99 : 9;
    }

    public static void main(String[] args) {
        Checks checks = new Checks();
        for (int seed = 1; seed <= 120; seed++) {
            new ModelTest(seed, checks).run(seed);
        }
        checks.end();
    }

    private void run(int seed) {
        boolean begun = seed % 4 != 0;
        if (begun) {
            begin();
        }
        for (int i = 0; i < 400; i++) {
            ask(random.nextInt(32));
            checks.due("seed " + seed + ", call " + i + ": " + call, got, want);
        }
    }

    private void begin() {
        int ways = 2 + random.nextInt(4);
        for (int i = 0; i < ways; i++) {
            way();
        }
        long weathers = random.nextLong();
        int n = 1 + random.nextInt(12);
        x.sky(n, weathers);
        m.sky(n, weathers);
        int rules = 2 + random.nextInt(8);
        for (int i = 0; i < rules; i++) {
            feed(TEXTS[random.nextInt(TEXTS.length)]);
            x.rule();
            m.rule();
        }
        int people = 1 + random.nextInt(8);
        for (int i = 0; i < people; i++) {
            int way = random.nextInt(ways);
            int rule = random.nextInt(rules);
            x.person(way, rule);
            m.person(way, rule);
        }
    }

    private void say(String name, int got, int want, long... args) {
        StringBuilder told = new StringBuilder(name).append('(');
        for (int i = 0; i < args.length; i++) {
            told.append(i == 0 ? "" : ", ").append(args[i]);
        }
        this.call = told.append(')').toString();
        this.got = got;
        this.want = want;
    }

    /** Mostly least .. greatest, now and then just outside or far away. */
    private int about(int least, int greatest) {
        switch (random.nextInt(40)) {
            case 0: return least - 1;
            case 1: return greatest + 1;
            case 2: return random.nextInt();
            case 3: return random.nextBoolean() ? Integer.MIN_VALUE : Integer.MAX_VALUE;
            case 4: return least;
            case 5: return greatest;
            default: return least + random.nextInt(Math.max(1, greatest - least + 1));
        }
    }

    private int some(int number) {
        return about(0, Math.max(0, number - 1));
    }

    private int aWay() {
        return some(m.now.ways.size());
    }

    private int aRule() {
        return some(m.now.rules.size());
    }

    private int aPerson() {
        return some(m.now.people.size());
    }

    private int years() {
        return random.nextInt(6) == 0 ? about(1, 60) : about(1, 12);
    }

    private void way() {
        int a = about(0, brightest);
        int b = about(0, brightest);
        int c = about(0, brightest);
        int d = about(0, brightest);
        say("way", x.way(a, b, c, d), m.way(a, b, c, d), a, b, c, d);
    }

    private void feed(String text) {
        for (int from = 0; from < text.length(); from += 8) {
            int n = Math.min(8, text.length() - from);
            long bytes = Checks.bytes(text.substring(from, from + n));
            say("feed", x.feed(n, bytes), m.feed(n, bytes), n, bytes);
        }
    }

    private void feedSome() {
        if (random.nextInt(8) == 0) {
            int n = about(1, 8);
            long bytes = random.nextLong();
            say("feed", x.feed(n, bytes), m.feed(n, bytes), n, bytes);
            return;
        }
        StringBuilder text = new StringBuilder(TEXTS[random.nextInt(TEXTS.length)]);
        for (int i = random.nextInt(3); i > 0; i--) {
            int at = random.nextInt(text.length());
            char sign = SIGNS.charAt(random.nextInt(SIGNS.length()));
            switch (random.nextInt(3)) {
                case 0: text.setCharAt(at, sign); break;
                case 1: text.insert(at, sign); break;
                default: text.setLength(at + 1);
            }
        }
        feed(text.toString());
    }

    private void ask(int which) {
        if (which < 16) {
            askPlain(which);
        } else {
            askRun(which);
        }
    }

    private void askPlain(int which) {
        int p = aPerson();
        int r = aRule();
        int w = aWay();
        int weather = about(0, 3);
        switch (which) {
            case 0: way(); break;
            case 1:
                int v = about(0, brightest);
                say("brings", x.brings(w, weather, v), m.brings(w, weather, v), w, weather, v);
                break;
            case 2: say("bestWay", x.bestWay(weather), m.bestWay(weather), weather); break;
            case 3:
                int n = about(1, 24);
                long weathers = random.nextLong();
                say("sky", x.sky(n, weathers), m.sky(n, weathers), n, weathers);
                break;
            case 4:
                int year = about(0, 999999);
                say("weather", x.weather(year), m.weather(year), year);
                break;
            case 5: feedSome(); break;
            case 6: say("rule", x.rule(), m.rule()); break;
            case 7: say("person", x.person(w, r), m.person(w, r), w, r); break;
            case 8:
                int bits = about(0, 255);
                say("sees", x.sees(p, bits), m.sees(p, bits), p, bits);
                break;
            case 9: say("lives", x.lives(p, r), m.lives(p, r), p, r); break;
            case 10: say("plants", x.plants(p, w), m.plants(p, w), p, w); break;
            case 11:
                int s = random.nextInt(3) == 0 ? 0 : about(0, 24);
                say("show", x.show(s), m.show(s), s);
                break;
            case 12:
                int what = about(0, 4);
                say("of", x.of(p, what), m.of(p, what), p, what);
                break;
            case 13: say("next", x.next(p), m.next(p), p); break;
            case 14: say("share", x.share(w), m.share(w), w); break;
            default:
                int which2 = about(0, 16);
                say("count", x.count(which2), m.count(which2), which2);
        }
    }

    private void askRun(int which) {
        int n = years();
        int a = aRule();
        int b = aRule();
        switch (which) {
            case 16: say("go", x.go(n), m.go(n), n); break;
            case 17: say("fares", x.fares(n), m.fares(n), n); break;
            case 18: say("wrong", x.wrong(n), m.wrong(n), n); break;
            case 19: say("alike", x.alike(n), m.alike(n), n); break;
            case 20:
                int p = aPerson();
                say("gain", x.gain(p, a, n), m.gain(p, a, n), p, a, n);
                break;
            case 21: say("rest", x.rest(n), m.rest(n), n); break;
            case 22: say("ifAll", x.ifAll(a, n), m.ifAll(a, n), a, n); break;
            case 23: say("bestRule", x.bestRule(n), m.bestRule(n), n); break;
            case 24: case 25:
                int what = about(0, 1);
                say("part", x.part(a, b, what, n), m.part(a, b, what, n), a, b, what, n);
                break;
            case 26:
                int weathers = random.nextInt(20) == 0 ? about(0, 44) : 10 * about(0, 3) + about(0, 3);
                say("edge", x.edge(a, b, weathers, n), m.edge(a, b, weathers, n), a, b, weathers, n);
                break;
            case 27:
                int k = about(0, 7);
                say("lessSeen", x.lessSeen(k, n), m.lessSeen(k, n), k, n);
                break;
            case 28:
                int s = about(0, 24);
                say("shown", x.shown(s, n), m.shown(s, n), s, n);
                break;
            case 29: say("blind", x.blind(n), m.blind(n), n); break;
            case 30:
                if (random.nextBoolean()) {
                    say("image", x.image(), m.image());
                }
                break;
            default: say("restore", x.restore(), m.restore());
        }
    }
}
