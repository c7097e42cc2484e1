import java.util.Arrays;

/** An island of gardens whose people plant the next year by rules: whom should they copy? */
public final class YamIsland {
    private static final int WEATHERS = 4;
    private static final int MOST_WAYS = 6;
    private static final int MOST_PEOPLE = 8;
    private static final int MOST_RULES = 10;
    private static final int MOST_BRINGS = 99;
    private static final int LONGEST_SKY = 24;
    private static final int LONGEST_TURN = 12;
    private static final int LONGEST_TEXT = 24;
    private static final int LONGEST_RUN = 60;
    private static final int LONGEST_FEED = 8;
    private static final int LAST_YEAR = 999999;
    private static final int MOST_SHOW = 24;
    private static final int MOST_AHEAD = 7;
    private static final int DEEPEST = 4;
    private static final int ALL_EIGHT = 255;

    private static final int FINE = 0;
    private static final int NOBODY = -1;
    private static final int OTHER = -2;
    private static final int STATE = -3;
    private static final int BELOW = -4;
    private static final int ROOM = -6;
    private static final int NONE = -9;
    private static final int FIRST_FAULT = -20;
    private static final int FAR_BELOW = -1000000000;

    private static final char STILL = 's';
    private static final char BEST = 'b';
    private static final char MOST = 'm';
    private static final char NEAR = 'n';
    private static final char TRY = 't';
    private static final char MIXED = '(';

    private final Island island = new Island();
    private final Island taken = new Island();
    /** What would be if all lived in two parts. */
    private final Island parted = new Island();
    /** Where runs are gone through, so that the island itself stays as it is. */
    private final Island mind = new Island();
    private final int[] ownBrought = new int[MOST_PEOPLE];
    private final Reader reader = new Reader();
    private final int[] refusals = new int[7];
    private boolean isTaken;

    public YamIsland() {
    }

    public int way(int first, int second, int third, int fourth) {
        int least = Math.min(Math.min(first, second), Math.min(third, fourth));
        int greatest = Math.max(Math.max(first, second), Math.max(third, fourth));
        if (least < 0) {
            return refuse(BELOW);
        }
        if (greatest > MOST_BRINGS || island.wayCount >= MOST_WAYS) {
            return refuse(ROOM);
        }
        return island.addWay(first, second, third, fourth);
    }

    public int brings(int way, int weather, int v) {
        if (!isWay(way) || !isWeather(weather)) {
            return refuse(NOBODY);
        }
        int why = whyOutside(v, 0, MOST_BRINGS);
        if (why != FINE) {
            return refuse(why);
        }
        int was = island.bringsOf(way, weather);
        island.brings[way * WEATHERS + weather] = v;
        return was;
    }

    public int bestWay(int weather) {
        if (!isWeather(weather)) {
            return refuse(NOBODY);
        }
        if (island.wayCount == 0) {
            return refuse(STATE);
        }
        return island.bestIn(weather);
    }

    public int sky(int n, long weathers) {
        int why = whyOutside(n, 1, LONGEST_SKY);
        if (why != FINE) {
            return refuse(why);
        }
        int was = island.skyLength;
        for (int i = 0; i < n; i++) {
            island.sky[i] = (int) (weathers >>> (2 * i)) & 3;
        }
        island.skyLength = n;
        return was;
    }

    public int weather(int year) {
        int why = whyOutside(year, 0, LAST_YEAR);
        return why != FINE ? refuse(why) : island.weatherOf(year);
    }

    public int feed(int n, long bytes) {
        int why = whyOutside(n, 1, LONGEST_FEED);
        if (why == FINE && reader.length > LONGEST_TEXT - n) {
            why = ROOM;
        }
        if (why != FINE) {
            return refuse(why);
        }
        for (int i = 0; i < n; i++) {
            reader.take((int) (bytes >>> (8 * i)) & 255);
        }
        return reader.length;
    }

    public int rule() {
        if (island.ruleCount >= MOST_RULES) {
            return refuse(ROOM);
        }
        Rule read = reader.readAll();
        reader.length = 0;
        if (read == null) {
            return FIRST_FAULT - reader.place;
        }
        return island.addRule(read);
    }

    public int person(int way, int rule) {
        if (!isWay(way) || !isRule(rule)) {
            return refuse(NOBODY);
        }
        if (island.peopleCount >= MOST_PEOPLE) {
            return refuse(ROOM);
        }
        return island.addPerson(way, rule);
    }

    public int sees(int person, int bits) {
        int why = isPerson(person) ? whyOutside(bits, 0, ALL_EIGHT) : NOBODY;
        return why != FINE ? refuse(why) : exchange(island.seesOf, person, bits);
    }

    public int lives(int person, int rule) {
        if (!isPerson(person) || !isRule(rule)) {
            return refuse(NOBODY);
        }
        return exchange(island.ruleOf, person, rule);
    }

    public int plants(int person, int way) {
        if (!isPerson(person) || !isWay(way)) {
            return refuse(NOBODY);
        }
        return exchange(island.wayOf, person, way);
    }

    public int show(int s) {
        int why = whyOutside(s, 0, MOST_SHOW);
        if (why != FINE) {
            return refuse(why);
        }
        int was = island.show;
        island.show = s;
        return was;
    }

    public int of(int person, int what) {
        if (!isPerson(person)) {
            return refuse(NOBODY);
        }
        switch (what) {
            case 0: return island.wayOf[person];
            case 1: return island.ruleOf[person];
            case 2: return island.seesOf[person];
            case 3: return island.bringsOf(island.wayOf[person], island.weatherOf(island.year));
            case 4: return island.total[person];
            default: return refuse(OTHER);
        }
    }

    public int next(int person) {
        if (!isPerson(person)) {
            return refuse(NOBODY);
        }
        island.harvest();
        return island.choiceOf(person);
    }

    public int go(int n) {
        int why = whyNoRun(n);
        if (why != FINE) {
            return refuse(why);
        }
        island.passYears(n);
        return island.year;
    }

    public int share(int way) {
        return isWay(way) ? island.plantersOf(way) : refuse(NOBODY);
    }

    public int fares(int n) {
        int why = whyNoRun(n);
        return why != FINE ? refuse(why) : faresNow(n);
    }

    public int wrong(int n) {
        int why = whyNoRun(n);
        if (why != FINE) {
            return refuse(why);
        }
        int years = 0;
        mind.imagine(island);
        for (int i = 0; i < n; i++) {
            if (mind.isWrong()) {
                years++;
            }
            mind.passYears(1);
        }
        return years;
    }

    public int alike(int n) {
        int why = whyNoRun(n);
        if (why != FINE) {
            return refuse(why);
        }
        mind.imagine(island);
        for (int i = 0; i <= n; i++) {
            if (mind.isAlike()) {
                return i;
            }
            mind.passYears(1);
        }
        return NONE;
    }

    public int gain(int person, int rule, int n) {
        int why = isPerson(person) && isRule(rule) ? whyNoRun(n) : NOBODY;
        if (why != FINE) {
            return refuseFar(why);
        }
        int own = island.ruleOf[person];
        return broughtBy(island, person, rule, n) - broughtBy(island, person, own, n);
    }

    public int rest(int n) {
        int why = whyNoRun(n);
        if (why != FINE) {
            return refuse(why);
        }
        learnOwn(island, n);
        for (int p = 0; p < island.peopleCount; p++) {
            for (int r = 0; r < island.ruleCount; r++) {
                if (broughtBy(island, p, r, n) > ownBrought[p]) {
                    return 10 * p + r;
                }
            }
        }
        return NONE;
    }

    public int ifAll(int rule, int n) {
        int why = isRule(rule) ? whyNoRun(n) : NOBODY;
        return why != FINE ? refuse(why) : faresInParts(rule, rule, 0, n);
    }

    public int bestRule(int n) {
        int why = whyNoRun(n);
        if (why != FINE) {
            return refuse(why);
        }
        int best = 0;
        int most = -1;
        for (int r = 0; r < island.ruleCount; r++) {
            int fared = faresInParts(r, r, 0, n);
            if (fared > most) {
                most = fared;
                best = r;
            }
        }
        return best;
    }

    public int part(int a, int b, int what, int n) {
        if (!isRule(a) || !isRule(b)) {
            return refuse(NOBODY);
        }
        int why = what == 0 || what == 1 ? whyNoRun(n) : OTHER;
        if (why != FINE) {
            return refuse(why);
        }
        return what == 0 ? bestPart(a, b, n) : partAtRest(a, b, n);
    }

    public int edge(int a, int b, int weathers, int n) {
        if (!isRule(a) || !isRule(b) || weathers < 0) {
            return refuse(NOBODY);
        }
        int x = weathers / 10;
        int y = weathers % 10;
        int why = isWeather(x) && isWeather(y) ? whyNoRun(n) : NOBODY;
        if (why != FINE) {
            return refuse(why);
        }
        for (int turn = 1; turn <= LONGEST_TURN; turn++) {
            if (faresUnder(turn, x, y, a, n) > faresUnder(turn, x, y, b, n)) {
                return turn;
            }
        }
        return NONE;
    }

    public int lessSeen(int k, int n) {
        int why = whyNoRunWith(k, MOST_AHEAD, n);
        if (why != FINE) {
            return refuseFar(why);
        }
        int now = faresNow(n);
        mind.imagine(island);
        mind.seeAhead(k);
        return faresInMind(n) - now;
    }

    public int shown(int s, int n) {
        int why = whyNoRunWith(s, MOST_SHOW, n);
        if (why != FINE) {
            return refuseFar(why);
        }
        int now = faresNow(n);
        mind.imagine(island);
        mind.show = s;
        return faresInMind(n) - now;
    }

    public int blind(int n) {
        int why = whyNoRun(n);
        if (why != FINE) {
            return refuse(why);
        }
        int best = 0;
        int most = -1;
        for (int p = 0; p < island.peopleCount; p++) {
            mind.imagine(island);
            mind.hidden = 1 << p;
            int fared = faresInMind(n);
            if (fared > most) {
                most = fared;
                best = p;
            }
        }
        return best;
    }

    public int image() {
        taken.copyFrom(island);
        isTaken = true;
        return island.year;
    }

    public int restore() {
        if (!isTaken) {
            return refuse(STATE);
        }
        island.copyFrom(taken);
        return island.year;
    }

    public int count(int what) {
        switch (what) {
            case 0: return island.wayCount;
            case 1: return island.peopleCount;
            case 2: return island.ruleCount;
            case 3: return island.year;
            case 4: return island.skyLength;
            case 5: return island.show;
            case 6: return island.allBrought();
            case 7: return reader.length;
            default: return what >= 11 && what <= 16 ? refusals[what - 10] : NONE;
        }
    }

    private boolean isWay(int way) {
        return way >= 0 && way < island.wayCount;
    }

    private static boolean isWeather(int weather) {
        return weather >= 0 && weather < WEATHERS;
    }

    private boolean isPerson(int person) {
        return person >= 0 && person < island.peopleCount;
    }

    private boolean isRule(int rule) {
        return rule >= 0 && rule < island.ruleCount;
    }

    private static int whyOutside(int v, int least, int greatest) {
        if (v < least) {
            return BELOW;
        }
        return v > greatest ? ROOM : FINE;
    }

    private int whyNoRun(int n) {
        int why = whyOutside(n, 1, LONGEST_RUN);
        return why == FINE && island.peopleCount == 0 ? STATE : why;
    }

    /** Both numbers are looked at for one refusal before the next one is thought of. */
    private int whyNoRunWith(int v, int greatest, int n) {
        if (v < 0) {
            return BELOW;
        }
        int why = whyNoRun(n);
        return why != BELOW && v > greatest ? ROOM : why;
    }

    private int refuse(int why) {
        int place = -why;
        if (place > 0 && place < refusals.length) {
            refusals[place]++;
        }
        return why;
    }

    /** Where an answer may be below 0, a refusal has to lie below all answers. */
    private int refuseFar(int why) {
        return FAR_BELOW + refuse(why);
    }

    private static int exchange(int[] row, int person, int v) {
        int was = row[person];
        row[person] = v;
        return was;
    }

    private int faresNow(int n) {
        mind.imagine(island);
        return faresInMind(n);
    }

    private int faresInMind(int n) {
        mind.passYears(n);
        return mind.allBrought();
    }

    private int faresInParts(int a, int b, int k, int n) {
        mind.imagine(island);
        mind.liveInParts(a, b, k);
        return faresInMind(n);
    }

    private int faresUnder(int turn, int x, int y, int rule, int n) {
        mind.imagine(island);
        mind.turnSky(turn, x, y);
        mind.liveInParts(rule, rule, 0);
        return faresInMind(n);
    }

    private int bestPart(int a, int b, int n) {
        int best = 0;
        int most = -1;
        for (int k = 0; k <= island.peopleCount; k++) {
            int fared = faresInParts(a, b, k, n);
            if (fared > most) {
                most = fared;
                best = k;
            }
        }
        return best;
    }

    private int partAtRest(int a, int b, int n) {
        for (int k = 0; k <= island.peopleCount; k++) {
            parted.imagine(island);
            parted.liveInParts(a, b, k);
            if (nobodyGains(a, b, k, n)) {
                return k;
            }
        }
        return NONE;
    }

    private boolean nobodyGains(int a, int b, int k, int n) {
        learnOwn(parted, n);
        for (int p = 0; p < parted.peopleCount; p++) {
            if (broughtBy(parted, p, p < k ? b : a, n) > ownBrought[p]) {
                return false;
            }
        }
        return true;
    }

    private void learnOwn(Island from, int n) {
        mind.imagine(from);
        mind.passYears(n);
        System.arraycopy(mind.total, 0, ownBrought, 0, MOST_PEOPLE);
    }

    private int broughtBy(Island from, int person, int rule, int n) {
        mind.imagine(from);
        mind.ruleOf[person] = rule;
        mind.passYears(n);
        return mind.total[person];
    }

    /** All that an image holds; and what there is only in mind. */
    private static final class Island {
        int wayCount;
        final int[] brings = new int[MOST_WAYS * WEATHERS];
        int skyLength = 1;
        final int[] sky = new int[LONGEST_SKY];
        /** The year that has the first weather: above 0 only in mind. */
        int skyStart;
        int ruleCount;
        final Rule[] rules = new Rule[MOST_RULES];
        int peopleCount;
        final int[] wayOf = new int[MOST_PEOPLE];
        final int[] ruleOf = new int[MOST_PEOPLE];
        final int[] seesOf = new int[MOST_PEOPLE];
        final int[] total = new int[MOST_PEOPLE];
        int year;
        int show;
        /** Bits of whom others never see: only in mind. */
        int hidden;
        final int[] brought = new int[MOST_PEOPLE];
        /** Bits of whom each one sees this year, shows and all. */
        final int[] seen = new int[MOST_PEOPLE];
        final int[] chosen = new int[MOST_PEOPLE];
        final int[] planters = new int[MOST_WAYS];

        void copyFrom(Island other) {
            wayCount = other.wayCount;
            System.arraycopy(other.brings, 0, brings, 0, brings.length);
            skyLength = other.skyLength;
            System.arraycopy(other.sky, 0, sky, 0, LONGEST_SKY);
            skyStart = other.skyStart;
            ruleCount = other.ruleCount;
            for (int r = 0; r < MOST_RULES; r++) {
                rules[r] = other.rules[r];
            }
            peopleCount = other.peopleCount;
            System.arraycopy(other.wayOf, 0, wayOf, 0, MOST_PEOPLE);
            System.arraycopy(other.ruleOf, 0, ruleOf, 0, MOST_PEOPLE);
            System.arraycopy(other.seesOf, 0, seesOf, 0, MOST_PEOPLE);
            System.arraycopy(other.total, 0, total, 0, MOST_PEOPLE);
            year = other.year;
            show = other.show;
            hidden = other.hidden;
        }

        /** A run counts only what it brings itself. */
        void imagine(Island other) {
            copyFrom(other);
            Arrays.fill(total, 0);
        }

        /** Only while there is room. */
        int addWay(int first, int second, int third, int fourth) {
            int at = wayCount * WEATHERS;
            brings[at] = first;
            brings[at + 1] = second;
            brings[at + 2] = third;
            brings[at + 3] = fourth;
            return wayCount++;
        }

        /** Only while there is room. */
        int addRule(Rule rule) {
            rules[ruleCount] = rule;
            return ruleCount++;
        }

        /** Only while there is room. */
        int addPerson(int way, int rule) {
            wayOf[peopleCount] = way;
            ruleOf[peopleCount] = rule;
            seesOf[peopleCount] = ALL_EIGHT;
            total[peopleCount] = 0;
            return peopleCount++;
        }

        void liveInParts(int a, int b, int k) {
            for (int p = 0; p < peopleCount; p++) {
                ruleOf[p] = p < k ? a : b;
            }
        }

        void turnSky(int turn, int x, int y) {
            for (int i = 0; i < turn; i++) {
                sky[i] = x;
                sky[turn + i] = y;
            }
            skyLength = 2 * turn;
            skyStart = year;
        }

        void seeAhead(int k) {
            for (int p = 0; p < peopleCount; p++) {
                int bits = 1 << p;
                int ahead = p;
                for (int i = 0; i < k; i++) {
                    ahead = ahead > 0 ? ahead - 1 : peopleCount - 1;
                    bits |= 1 << ahead;
                }
                seesOf[p] = bits;
            }
        }

        int bringsOf(int way, int weather) {
            return brings[way * WEATHERS + weather];
        }

        int weatherOf(int someYear) {
            int since = someYear - skyStart;
            return since >= 0 && skyLength > 0 ? sky[since % skyLength] : 0;
        }

        int bestIn(int weather) {
            int best = 0;
            for (int w = 1; w < wayCount; w++) {
                if (bringsOf(w, weather) > bringsOf(best, weather)) {
                    best = w;
                }
            }
            return best;
        }

        int plantersOf(int way) {
            int planters = 0;
            for (int p = 0; p < peopleCount; p++) {
                if (wayOf[p] == way) {
                    planters++;
                }
            }
            return planters;
        }

        boolean isAlike() {
            return plantersOf(wayOf[0]) == peopleCount;
        }

        boolean isWrong() {
            int weather = weatherOf(year);
            return isAlike() && bringsOf(wayOf[0], weather) < bringsOf(bestIn(weather), weather);
        }

        int allBrought() {
            int sum = 0;
            for (int p = 0; p < peopleCount; p++) {
                sum += total[p];
            }
            return sum;
        }

        void passYears(int n) {
            for (int i = 0; i < n; i++) {
                harvest();
                for (int p = 0; p < peopleCount; p++) {
                    total[p] += brought[p];
                    chosen[p] = choiceOf(p);
                }
                System.arraycopy(chosen, 0, wayOf, 0, peopleCount);
                year++;
            }
        }

        /** What each garden brings this year, and who sees whose. */
        void harvest() {
            int weather = weatherOf(year);
            boolean allSeeAll = isDivisor(show, year);
            for (int p = 0; p < peopleCount; p++) {
                int others = (allSeeAll ? ALL_EIGHT : seesOf[p]) & ~hidden;
                seen[p] = others | (1 << p);
                brought[p] = bringsOf(wayOf[p], weather);
            }
        }

        /** Only behind harvest(). */
        int choiceOf(int person) {
            int own = wayOf[person];
            Rule rule = rules[ruleOf[person]];
            if (rule == null) {
                return own;
            }
            Rule simple = rule.simpleFor(brought[person]);
            switch (simple.sign) {
                case BEST: return bestSeen(person);
                case MOST: return mostSeen(person);
                case NEAR: return nearSeen(person);
                case TRY: return isDivisor(simple.number, year) ? wayBehind(own) : own;
                default: return own;
            }
        }

        private int bestSeen(int person) {
            int best = person;
            for (int p = 0; p < peopleCount; p++) {
                if ((seen[person] & 1 << p) != 0 && brought[p] > brought[best]) {
                    best = p;
                }
            }
            return wayOf[best];
        }

        private int mostSeen(int person) {
            Arrays.fill(planters, 0);
            for (int p = 0; p < peopleCount; p++) {
                if ((seen[person] & 1 << p) != 0) {
                    planters[wayOf[p]]++;
                }
            }
            int best = wayOf[person];
            for (int w = 0; w < wayCount; w++) {
                if (planters[w] > planters[best]) {
                    best = w;
                }
            }
            return best;
        }

        private int nearSeen(int person) {
            int last = person;
            int below = -1;
            for (int p = 0; p < peopleCount; p++) {
                if ((seen[person] & 1 << p) != 0) {
                    last = p;
                    below = p < person ? p : below;
                }
            }
            return wayOf[below >= 0 ? below : last];
        }

        private int wayBehind(int way) {
            return way + 1 < wayCount ? way + 1 : 0;
        }

        private static boolean isDivisor(int divisor, int someYear) {
            return divisor > 0 && someYear % divisor == 0;
        }
    }

    /** A rule as it was read; the two inside are there in mixed ones alone. */
    private static final class Rule {
        final char sign;
        final int number;
        final Rule ifLess;
        final Rule otherwise;

        Rule(char sign, int number, Rule ifLess, Rule otherwise) {
            this.sign = sign;
            this.number = number;
            this.ifLess = ifLess;
            this.otherwise = otherwise;
        }

        Rule simpleFor(int brought) {
            Rule at = this;
            for (int depth = 0; depth < DEEPEST && at.ifLess != null && at.otherwise != null; depth++) {
                at = brought < at.number ? at.ifLess : at.otherwise;
            }
            return at;
        }
    }

    /** The text, and how it is read; where a reading fails, place is that of the fault. */
    private static final class Reader {
        final int[] text = new int[LONGEST_TEXT];
        int length;
        int place;

        void take(int sign) {
            if (length < LONGEST_TEXT) {
                text[length] = sign;
                length++;
            }
        }

        Rule readAll() {
            place = 0;
            Rule rule = readRule(0);
            return place == length ? rule : null;
        }

        private Rule readRule(int open) {
            int sign = here();
            switch (sign) {
                case STILL: case BEST: case MOST: case NEAR:
                    place++;
                    return new Rule((char) sign, 0, null, null);
                case TRY:
                    place++;
                    int number = readNumber();
                    return number > 0 ? new Rule(TRY, number, null, null) : null;
                case MIXED:
                    return open < DEEPEST ? readMixed(open + 1) : null;
                default:
                    return null;
            }
        }

        private Rule readMixed(int open) {
            place++;
            int number = readNumber();
            if (number == 0 || !passes('?')) {
                return null;
            }
            Rule ifLess = readRule(open);
            if (ifLess == null || !passes(':')) {
                return null;
            }
            Rule otherwise = readRule(open);
            if (otherwise == null || !passes(')')) {
                return null;
            }
            return new Rule(MIXED, number, ifLess, otherwise);
        }

        /** 0 if there is none; a third digit is left to what comes behind the number, where it can not stand. */
        private int readNumber() {
            if (!isDigit(here()) || here() == '0') {
                return 0;
            }
            int number = here() - '0';
            place++;
            if (isDigit(here())) {
                number = 10 * number + here() - '0';
                place++;
            }
            return number;
        }

        private boolean passes(char sign) {
            boolean fits = here() == sign;
            if (fits) {
                place++;
            }
            return fits;
        }

        private int here() {
            return place < length ? text[place] : -1;
        }

        private static boolean isDigit(int sign) {
            return sign >= '0' && sign <= '9';
        }
    }
}
