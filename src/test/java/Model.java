import java.util.ArrayDeque;
import java.util.ArrayList;
import java.util.Deque;
import java.util.List;
import java.util.function.Consumer;

/**
 * The document once more, told in another way than the class: worlds are copied whole, texts stay texts
 * and are read anew each time that somebody chooses, faults are found by a stack of what may come.
 */
final class Model {
    static final class Person {
        int way;
        int rule;
        int sees = 255;
        int total;
    }

    static final class World {
        List<int[]> ways = new ArrayList<>();
        List<Integer> sky = new ArrayList<>(List.of(0));
        int skyBegins;
        List<String> rules = new ArrayList<>();
        List<Person> people = new ArrayList<>();
        int year;
        int show;
        int unseen = -1;

        World copy() {
            World w = new World();
            for (int[] way : ways) {
                w.ways.add(way.clone());
            }
            w.sky = new ArrayList<>(sky);
            w.skyBegins = skyBegins;
            w.rules.addAll(rules);
            for (Person p : people) {
                Person q = new Person();
                q.way = p.way;
                q.rule = p.rule;
                q.sees = p.sees;
                q.total = p.total;
                w.people.add(q);
            }
            w.year = year;
            w.show = show;
            w.unseen = unseen;
            return w;
        }

        int weather(int y) {
            return sky.get((y - skyBegins) % sky.size());
        }

        int brings(int person) {
            return ways.get(people.get(person).way)[weather(year)];
        }

        List<Integer> seenBy(int person) {
            List<Integer> seen = new ArrayList<>();
            boolean shows = show != 0 && year % show == 0;
            for (int q = 0; q < people.size(); q++) {
                boolean told = shows || (people.get(person).sees / (1 << q)) % 2 == 1;
                if (q == person || told && q != unseen) {
                    seen.add(q);
                }
            }
            return seen;
        }

        int choice(int person) {
            return choice(person, rules.get(people.get(person).rule));
        }

        int choice(int person, String text) {
            int own = people.get(person).way;
            char sign = text.charAt(0);
            if (sign == 't') {
                int every = Integer.parseInt(text.substring(1));
                return year % every == 0 ? (own + 1) % ways.size() : own;
            }
            if (sign == '(') {
                int mark = text.indexOf('?');
                int colon = colonOf(text, mark);
                boolean little = brings(person) < Integer.parseInt(text.substring(1, mark));
                return choice(person, little ? text.substring(mark + 1, colon)
                        : text.substring(colon + 1, text.length() - 1));
            }
            List<Integer> seen = seenBy(person);
            if (sign == 'b') {
                int most = seen.stream().mapToInt(this::brings).max().orElseThrow();
                if (brings(person) == most) {
                    return own;
                }
                int first = seen.stream().filter(q -> brings(q) == most).findFirst().orElseThrow();
                return people.get(first).way;
            }
            if (sign == 'm') {
                int[] planters = new int[ways.size()];
                seen.forEach(q -> planters[people.get(q).way]++);
                int most = java.util.Arrays.stream(planters).max().orElseThrow();
                if (planters[own] == most) {
                    return own;
                }
                int w = 0;
                while (planters[w] != most) {
                    w++;
                }
                return w;
            }
            if (sign == 'n') {
                int below = seen.stream().mapToInt(q -> q).filter(q -> q < person).max().orElse(-1);
                int last = seen.stream().mapToInt(q -> q).max().orElseThrow();
                return people.get(below >= 0 ? below : last).way;
            }
            return own;
        }

        /** The colon of the bracket that is open at the mark. */
        static int colonOf(String text, int mark) {
            int open = 0;
            int at = mark + 1;
            while (open > 0 || text.charAt(at) != ':') {
                open += text.charAt(at) == '(' ? 1 : text.charAt(at) == ')' ? -1 : 0;
                at++;
            }
            return at;
        }

        void pass() {
            List<Integer> chosen = new ArrayList<>();
            for (int p = 0; p < people.size(); p++) {
                chosen.add(choice(p));
            }
            for (int p = 0; p < people.size(); p++) {
                people.get(p).total += brings(p);
            }
            for (int p = 0; p < people.size(); p++) {
                people.get(p).way = chosen.get(p);
            }
            year++;
        }

        World after(int n) {
            World w = copy();
            for (int i = 0; i < n; i++) {
                w.pass();
            }
            return w;
        }

        int sum() {
            return people.stream().mapToInt(p -> p.total).sum();
        }

        int fares(int n) {
            return after(n).sum() - sum();
        }

        World with(Consumer<World> change) {
            World w = copy();
            change.accept(w);
            return w;
        }

        int own(int person, int n) {
            return after(n).people.get(person).total - people.get(person).total;
        }

        int gain(int person, int rule, int n) {
            return with(w -> w.people.get(person).rule = rule).own(person, n) - own(person, n);
        }

        World parts(int a, int b, int k) {
            return with(w -> {
                for (int p = 0; p < w.people.size(); p++) {
                    w.people.get(p).rule = p < k ? a : b;
                }
            });
        }

        boolean alike() {
            return people.stream().mapToInt(p -> p.way).distinct().count() == 1;
        }

        int best(int weather) {
            int best = 0;
            for (int w = 0; w < ways.size(); w++) {
                if (ways.get(w)[weather] > ways.get(best)[weather]) {
                    best = w;
                }
            }
            return best;
        }
    }

    World now = new World();
    World image;
    String text = "";
    final int[] refused = new int[7];

    private int no(int code) {
        refused[-code]++;
        return code;
    }

    private int run(int n) {
        return n < 1 ? -4 : n > 60 ? -6 : now.people.isEmpty() ? -3 : 0;
    }

    private boolean noWay(int w) {
        return w < 0 || w >= now.ways.size();
    }

    private boolean noRule(int r) {
        return r < 0 || r >= now.rules.size();
    }

    private boolean noPerson(int p) {
        return p < 0 || p >= now.people.size();
    }

    private boolean noWeather(int w) {
        return w < 0 || w > 3;
    }

    int way(int a, int b, int c, int d) {
        boolean full = now.ways.size() == 6;
        for (int v : new int[] {a, b, c, d}) {
            if (v < 0) {
                return no(-4);
            }
            full |= v > 99;
        }
        if (full) {
            return no(-6);
        }
        now.ways.add(new int[] {a, b, c, d});
        return now.ways.size() - 1;
    }

    int brings(int way, int weather, int v) {
        if (noWay(way) || noWeather(weather)) {
            return no(-1);
        }
        if (v < 0 || v > 99) {
            return no(v < 0 ? -4 : -6);
        }
        int was = now.ways.get(way)[weather];
        now.ways.get(way)[weather] = v;
        return was;
    }

    int bestWay(int weather) {
        return noWeather(weather) ? no(-1) : now.ways.isEmpty() ? no(-3) : now.best(weather);
    }

    int sky(int n, long weathers) {
        if (n < 1 || n > 24) {
            return no(n < 1 ? -4 : -6);
        }
        int was = now.sky.size();
        now.sky.clear();
        for (int i = 0; i < n; i++) {
            now.sky.add((int) (weathers & 3));
            weathers >>= 2;
        }
        return was;
    }

    int weather(int year) {
        return year < 0 ? no(-4) : year > 999999 ? no(-6) : now.weather(year);
    }

    int feed(int n, long bytes) {
        if (n < 1) {
            return no(-4);
        }
        if (n > 8 || text.length() + n > 24) {
            return no(-6);
        }
        for (int i = 0; i < n; i++) {
            text += (char) (bytes >> 8 * i & 255);
        }
        return text.length();
    }

    int rule() {
        if (now.rules.size() == 10) {
            return no(-6);
        }
        String read = text;
        text = "";
        int fault = fault(read);
        if (fault >= 0) {
            return -20 - fault;
        }
        now.rules.add(read);
        return now.rules.size() - 1;
    }

    /** R a rule, K a number's first sign, D perhaps a second one; others stand for themselves. */
    static int fault(String read) {
        Deque<Character> due = new ArrayDeque<>(List.of('R'));
        for (int at = 0; at < read.length(); at++) {
            char c = read.charAt(at);
            boolean digit = c >= '0' && c <= '9';
            if (!due.isEmpty() && due.peek() == 'D') {
                due.pop();
                if (digit) {
                    continue;
                }
            }
            if (due.isEmpty()) {
                return at;
            }
            char want = due.pop();
            if (want == 'K') {
                if (!digit || c == '0') {
                    return at;
                }
                due.push('D');
            } else if (want != 'R') {
                if (c != want) {
                    return at;
                }
            } else if (c == 't') {
                due.push('K');
            } else if (c == '(' && due.stream().filter(d -> d == ')').count() < 4) {
                for (char d : new char[] {')', 'R', ':', 'R', '?', 'K'}) {
                    due.push(d);
                }
            } else if ("sbmn".indexOf(c) < 0) {
                return at;
            }
        }
        if (!due.isEmpty() && due.peek() == 'D') {
            due.pop();
        }
        return due.isEmpty() ? -1 : read.length();
    }

    int person(int way, int rule) {
        if (noWay(way) || noRule(rule)) {
            return no(-1);
        }
        if (now.people.size() == 8) {
            return no(-6);
        }
        Person p = new Person();
        p.way = way;
        p.rule = rule;
        now.people.add(p);
        return now.people.size() - 1;
    }

    int sees(int person, int bits) {
        if (noPerson(person)) {
            return no(-1);
        }
        if (bits < 0 || bits > 255) {
            return no(bits < 0 ? -4 : -6);
        }
        int was = now.people.get(person).sees;
        now.people.get(person).sees = bits;
        return was;
    }

    int lives(int person, int rule) {
        if (noPerson(person) || noRule(rule)) {
            return no(-1);
        }
        int was = now.people.get(person).rule;
        now.people.get(person).rule = rule;
        return was;
    }

    int plants(int person, int way) {
        if (noPerson(person) || noWay(way)) {
            return no(-1);
        }
        int was = now.people.get(person).way;
        now.people.get(person).way = way;
        return was;
    }

    int show(int s) {
        if (s < 0 || s > 24) {
            return no(s < 0 ? -4 : -6);
        }
        int was = now.show;
        now.show = s;
        return was;
    }

    int of(int person, int what) {
        if (noPerson(person)) {
            return no(-1);
        }
        Person p = now.people.get(person);
        return what == 0 ? p.way : what == 1 ? p.rule : what == 2 ? p.sees
                : what == 3 ? now.brings(person) : what == 4 ? p.total : no(-2);
    }

    int next(int person) {
        return noPerson(person) ? no(-1) : now.choice(person);
    }

    int go(int n) {
        if (run(n) != 0) {
            return no(run(n));
        }
        now = now.after(n);
        return now.year;
    }

    int share(int way) {
        return noWay(way) ? no(-1) : (int) now.people.stream().filter(p -> p.way == way).count();
    }

    int fares(int n) {
        return run(n) != 0 ? no(run(n)) : now.fares(n);
    }

    int wrong(int n) {
        if (run(n) != 0) {
            return no(run(n));
        }
        int years = 0;
        for (int i = 0; i < n; i++) {
            World w = now.after(i);
            int weather = w.weather(w.year);
            if (w.alike() && w.ways.get(w.people.get(0).way)[weather] != w.ways.get(w.best(weather))[weather]) {
                years++;
            }
        }
        return years;
    }

    int alike(int n) {
        if (run(n) != 0) {
            return no(run(n));
        }
        for (int i = 0; i <= n; i++) {
            if (now.after(i).alike()) {
                return i;
            }
        }
        return -9;
    }

    int gain(int person, int rule, int n) {
        int code = noPerson(person) || noRule(rule) ? -1 : run(n);
        return code != 0 ? no(code) - 1000000000 : now.gain(person, rule, n);
    }

    int rest(int n) {
        if (run(n) != 0) {
            return no(run(n));
        }
        for (int i = 0; i < now.people.size() * now.rules.size(); i++) {
            int p = i / now.rules.size();
            int r = i % now.rules.size();
            if (now.gain(p, r, n) > 0) {
                return 10 * p + r;
            }
        }
        return -9;
    }

    int ifAll(int rule, int n) {
        int code = noRule(rule) ? -1 : run(n);
        return code != 0 ? no(code) : now.parts(rule, rule, 8).fares(n);
    }

    int bestRule(int n) {
        if (run(n) != 0) {
            return no(run(n));
        }
        int best = now.rules.size() - 1;
        for (int r = best - 1; r >= 0; r--) {
            if (now.parts(r, r, 0).fares(n) >= now.parts(best, best, 0).fares(n)) {
                best = r;
            }
        }
        return best;
    }

    int part(int a, int b, int what, int n) {
        int code = noRule(a) || noRule(b) ? -1 : what < 0 || what > 1 ? -2 : run(n);
        if (code != 0) {
            return no(code);
        }
        int best = -9;
        for (int k = now.people.size(); k >= 0; k--) {
            World w = now.parts(a, b, k);
            if (what == 0 && (best < 0 || w.fares(n) >= now.parts(a, b, best).fares(n))) {
                best = k;
            }
            if (what == 1) {
                boolean rests = true;
                for (int p = 0; p < w.people.size(); p++) {
                    rests &= w.gain(p, p < k ? b : a, n) <= 0;
                }
                best = rests ? k : best;
            }
        }
        return best;
    }

    int edge(int a, int b, int weathers, int n) {
        boolean odd = weathers < 0 || weathers / 10 > 3 || weathers % 10 > 3;
        int code = noRule(a) || noRule(b) || odd ? -1 : run(n);
        if (code != 0) {
            return no(code);
        }
        for (int turn = 1; turn <= 12; turn++) {
            World w = now.copy();
            w.sky.clear();
            for (int i = 0; i < 2 * turn; i++) {
                w.sky.add(i < turn ? weathers / 10 : weathers % 10);
            }
            w.skyBegins = w.year;
            if (w.parts(a, a, 0).fares(n) > w.parts(b, b, 0).fares(n)) {
                return turn;
            }
        }
        return -9;
    }

    private int runWith(int v, int greatest, int n) {
        return v < 0 || n < 1 ? -4 : v > greatest || n > 60 ? -6 : now.people.isEmpty() ? -3 : 0;
    }

    int lessSeen(int k, int n) {
        int code = runWith(k, 7, n);
        if (code != 0) {
            return no(code) - 1000000000;
        }
        int size = now.people.size();
        World less = now.with(w -> {
            for (int p = 0; p < size; p++) {
                java.util.Set<Integer> seen = new java.util.TreeSet<>();
                for (int i = 0; i <= k; i++) {
                    seen.add(Math.floorMod(p - i, size));
                }
                w.people.get(p).sees = seen.stream().mapToInt(q -> 1 << q).sum();
            }
        });
        return less.fares(n) - now.fares(n);
    }

    int shown(int s, int n) {
        int code = runWith(s, 24, n);
        return code != 0 ? no(code) - 1000000000 : now.with(w -> w.show = s).fares(n) - now.fares(n);
    }

    int blind(int n) {
        if (run(n) != 0) {
            return no(run(n));
        }
        int best = -1;
        int most = -1;
        for (int p = now.people.size() - 1; p >= 0; p--) {
            int person = p;
            int fared = now.with(w -> w.unseen = person).fares(n);
            if (fared >= most) {
                most = fared;
                best = p;
            }
        }
        return best;
    }

    int image() {
        image = now.copy();
        return now.year;
    }

    int restore() {
        if (image == null) {
            return no(-3);
        }
        now = image.copy();
        return now.year;
    }

    int count(int what) {
        if (what >= 11 && what <= 16) {
            return refused[what - 10];
        }
        int[] all = {now.ways.size(), now.people.size(), now.rules.size(), now.year, now.sky.size(), now.show,
            now.sum(), text.length()};
        return what >= 0 && what < all.length ? all[what] : -9;
    }
}
