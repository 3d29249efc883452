import java.util.Arrays;

/** A town whose council shuts, each night, a street of the shortest way from the market to the quay. */
public final class ShutWays {
    public static final int NONE = -1, UNKNOWN = -2, OUTSIDE = -3, NOT = -4, FULL = -5;

    private static final int MOST_CORNERS = 8, MOST_STREETS = 12, MOST_LANES = 4;
    private static final int MOST_ROADS = MOST_STREETS + MOST_LANES;
    private static final int MOST_BYTES = 200, MOST_LINES = 12, MOST_TOLD = 12, KEPT = 2;
    private static final int MOST_YARDS = 99, MOST_GO = 999, MOST_GONE = 9999, MOST_FLOOD = 99;
    private static final int LATER_DAYS = 99, NEVER_DAYS = 400, ROUND_DAYS = 1000, PASSED_DAYS = 99;
    private static final int BUILD_DAYS = 60, MOST_FAR = 999, CHOSEN_NIGHTS = 5, YARDS_OF_NO_WAY = 999;
    /** Above what all streets, or all lanes, can cost together. */
    private static final int TOO_DEAR = 100000;

    private final Text text = new Text();
    private Plan plan = new Plan();
    /** Read into, built on and changed instead of the plan, wherever the plan itself must stay. */
    private Plan draft = new Plan();
    private final Days today = new Days();
    private final Days trial = new Days();
    private final Days[] kept = new Days[KEPT];
    private final boolean[] isKept = new boolean[KEPT];
    private final Days[] levels = new Days[CHOSEN_NIGHTS + 1];
    private final Way way = new Way();
    private final Council[] councils = {new First(), new Last(), new Longest(), new Least()};
    private final int[] told = new int[MOST_TOLD];
    private int toldCount = 0;
    private final Trail trail = new Trail();
    private final int[] passes = new int[MOST_ROADS];

    public ShutWays() {
        for (int k = 0; k < kept.length; k++) {
            kept[k] = new Days();
        }
        for (int level = 0; level < levels.length; level++) {
            levels[level] = new Days();
        }
    }

    // ---- what is told

    public int write(long bytes, int n) {
        if (isOutside(n, 1, 8)) {
            return OUTSIDE;
        }
        return text.append(bytes, n) ? text.length : FULL;
    }

    public int erase() {
        int had = text.length;
        text.length = 0;
        return had;
    }

    public int fault() {
        draft.copyFrom(plan);
        return text.readInto(draft);
    }

    public int town() {
        draft.copyFrom(plan);
        if (text.readInto(draft) != NONE) {
            return NOT;
        }
        Plan old = plan;
        plan = draft;
        draft = old;
        today.start();
        for (int k = 0; k < isKept.length; k++) {
            isKept[k] = false;
        }
        toldCount = 0;
        text.length = 0;
        return text.lines;
    }

    public int street(int street, int what) {
        if (!plan.streets.has(street)) {
            return UNKNOWN;
        }
        return what == 4 ? today.shut[street] : plan.streets.tell(street, what);
    }

    public int lane(int lane, int what) {
        if (!plan.lanes.has(lane)) {
            return UNKNOWN;
        }
        return plan.lanes.tell(lane, what);
    }

    public int as(int kind) {
        if (isOutside(kind, 0, 4)) {
            return OUTSIDE;
        }
        Council council = councilOf(plan);
        if (!council.isOf(kind)) {
            return NOT;
        }
        findWay(plan, today);
        return council.shuts(way, plan.streets);
    }

    // ---- days and nights

    public int way(int what) {
        int which = what - 10;
        boolean ofStreet = !isOutside(which, 0, MOST_STREETS - 1);
        if (isOutside(what, 0, 1) && !ofStreet) {
            return OUTSIDE;
        }
        findWay(plan, today);
        if (!way.isThere()) {
            return NONE;
        }
        if (ofStreet) {
            return which < way.count ? way.street[which] : NONE;
        }
        return what == 0 ? way.yards : way.count;
    }

    public int go(int n) {
        if (isOutside(n, 1, MOST_GO)) {
            return OUTSIDE;
        }
        if (today.gone + n > MOST_GONE) {
            return FULL;
        }
        for (int night = 0; night < n; night++) {
            passNight(plan, today);
        }
        return today.gone;
    }

    public int flood(int street, int n) {
        if (!plan.streets.has(street)) {
            return UNKNOWN;
        }
        if (isOutside(n, 1, MOST_FLOOD)) {
            return OUTSIDE;
        }
        today.shut[street] = Math.max(today.shut[street], n);
        return today.shut[street];
    }

    public int fair() {
        int were = Integer.bitCount(today.shutSet());
        Arrays.fill(today.shut, 0);
        return were;
    }

    public int keep(int k) {
        if (isOutside(k, 0, KEPT - 1)) {
            return UNKNOWN;
        }
        kept[k].copyFrom(today);
        isKept[k] = true;
        return today.gone;
    }

    public int back(int k) {
        if (isOutside(k, 0, KEPT - 1)) {
            return UNKNOWN;
        }
        if (!isKept[k]) {
            return NOT;
        }
        today.copyFrom(kept[k]);
        return today.gone;
    }

    // ---- foretold

    public int later(int t) {
        if (isOutside(t, 0, LATER_DAYS)) {
            return OUTSIDE;
        }
        trial.copyFrom(today);
        for (int night = 0; night < t; night++) {
            passNight(plan, trial);
        }
        findWay(plan, trial);
        return way.isThere() ? way.yards : NONE;
    }

    public int never() {
        trial.copyFrom(today);
        for (int day = 0; day < NEVER_DAYS; day++) {
            passNight(plan, trial);
            if (!way.isThere()) {
                return day;
            }
        }
        return NONE;
    }

    /** By Menger's theorem the most ways apart are as many as the fewest streets that part the ends. */
    public int apart() {
        int market = 1 << plan.marketOf(today.gone);
        int quay = 1 << plan.quayOf(today.gone);
        int fewest = MOST_STREETS;
        for (int side = 0; side < 1 << plan.corners; side++) {
            if ((side & market) != 0 && (side & quay) == 0) {
                fewest = Math.min(fewest, plan.streets.leaving(side));
            }
        }
        return fewest;
    }

    public int round(int what) {
        if (isOutside(what, 0, 1)) {
            return OUTSIDE;
        }
        trial.copyFrom(today);
        for (int day = 0; day <= ROUND_DAYS; day++) {
            trail.put(day, trial, plan.turnOf(trial.gone));
            int before = trail.firstLike(day);
            if (before < day) {
                return what == 0 ? before : day - before;
            }
            passNight(plan, trial);
        }
        return NONE;
    }

    public int passed(int street, int days) {
        if (!plan.streets.has(street)) {
            return UNKNOWN;
        }
        if (isOutside(days, 1, PASSED_DAYS)) {
            return OUTSIDE;
        }
        countPasses(days);
        return passes[street];
    }

    public int most(int days) {
        if (isOutside(days, 1, PASSED_DAYS)) {
            return OUTSIDE;
        }
        countPasses(days);
        int best = NONE;
        int often = 0;
        for (int s = 0; s < plan.streets.count; s++) {
            if (passes[s] > often) {
                best = s;
                often = passes[s];
            }
        }
        return best;
    }

    public int build(int days, int far, int what) {
        if (isOutside(days, 1, BUILD_DAYS) || isOutside(far, 1, MOST_FAR) || isOutside(what, 0, 1)) {
            return OUTSIDE;
        }
        int best = NONE;
        int cheapest = TOO_DEAR;
        for (int set = 0; set < 1 << plan.lanes.count; set++) {
            int cost = plan.lanes.paidFor(set);
            if (cost < cheapest && isNeverFarWith(set, days, far)) {
                best = set;
                cheapest = cost;
            }
        }
        if (best == NONE) {
            return NONE;
        }
        return what == 0 ? cheapest : best;
    }

    public int chosen(int nights, int what) {
        if (isOutside(nights, 1, CHOSEN_NIGHTS) || isOutside(what, 0, 1)) {
            return OUTSIDE;
        }
        levels[0].copyFrom(today);
        return bestSum(0, nights, what == 1);
    }

    public int carts(int street, int what) {
        if (!plan.streets.has(street)) {
            return UNKNOWN;
        }
        if (isOutside(what, 0, 1)) {
            return OUTSIDE;
        }
        if (today.shut[street] > 0) {
            return NONE;
        }
        // A cart on a shut street changes nothing, one on the told street never helps: without them
        // a set is no dearer, and less.
        int useless = today.shutSet() | 1 << street;
        draft.copyFrom(plan);
        int best = NONE;
        int cheapest = TOO_DEAR;
        for (int set = 0; set < 1 << plan.streets.count; set++) {
            if ((set & useless) == 0 && plan.streets.paidFor(set) < cheapest && isPassedWithCarts(street, set)) {
                best = set;
                cheapest = plan.streets.paidFor(set);
            }
        }
        if (best == NONE) {
            return NONE;
        }
        return what == 0 ? cheapest : best;
    }

    // ---- nights told

    public int night(int street) {
        if (street != NONE && !plan.streets.has(street)) {
            return UNKNOWN;
        }
        if (toldCount >= told.length) {
            return FULL;
        }
        told[toldCount] = street;
        toldCount++;
        return toldCount;
    }

    public int forget() {
        int were = toldCount;
        toldCount = 0;
        return were;
    }

    public int judge() {
        return firstWrongNight(plan);
    }

    public int fits(int street, int what) {
        if (!plan.streets.has(street)) {
            return UNKNOWN;
        }
        if (isOutside(what, 0, 2)) {
            return OUTSIDE;
        }
        draft.copyFrom(plan);
        int count = 0;
        int least = NONE;
        int greatest = NONE;
        for (int yards = 1; yards <= MOST_YARDS; yards++) {
            draft.streets.yards[street] = yards;
            if (firstWrongNight(draft) == NONE) {
                count++;
                least = least == NONE ? yards : least;
                greatest = yards;
            }
        }
        if (what == 0) {
            return count;
        }
        return what == 1 ? least : greatest;
    }

    public int count(int what) {
        switch (what) {
            case 0: return plan.corners;
            case 1: return plan.streets.count;
            case 2: return plan.lanes.count;
            case 3: return plan.kind;
            case 4: return plan.nights;
            case 5: return plan.cart;
            case 6: return today.gone;
            case 7: return toldCount;
            case 8: return today.shutSet();
            case 9: return plan.marketOf(today.gone);
            case 10: return plan.quayOf(today.gone);
            case 11: return text.length;
            default: return OUTSIDE;
        }
    }

    // ---- what the calls share

    private static boolean isOutside(int number, int least, int greatest) {
        return number < least || number > greatest;
    }

    private Council councilOf(Plan of) {
        boolean isKnown = of.kind >= 0 && of.kind < councils.length;
        return councils[isKnown ? of.kind : 0];
    }

    private void findWay(Plan of, Days days) {
        way.find(of.streets, days.shut, of.marketOf(days.gone), of.quayOf(days.gone));
    }

    /** The way of the day that ends stays in this.way. */
    private int passNight(Plan of, Days days) {
        findWay(of, days);
        int shuts = councilOf(of).shuts(way, of.streets);
        days.next(shuts, of.nights);
        return shuts;
    }

    private void countPasses(int days) {
        Arrays.fill(passes, 0);
        trial.copyFrom(today);
        for (int day = 0; day < days; day++) {
            passNight(plan, trial);
            for (int i = 0; i < way.count; i++) {
                passes[way.street[i]]++;
            }
        }
    }

    private boolean isNeverFarWith(int lanes, int days, int far) {
        draft.copyFrom(plan);
        draft.buildLanes(lanes);
        trial.copyFrom(today);
        for (int day = 0; day < days; day++) {
            passNight(draft, trial);
            if (!way.isThere() || way.yards > far) {
                return false;
            }
        }
        return true;
    }

    /** The sum of the yards of the day of this level and of the days of all levels below it. */
    private int bestSum(int level, int nightsLeft, boolean greatest) {
        Days days = levels[level];
        findWay(plan, days);
        int yards = way.isThere() ? way.yards : YARDS_OF_NO_WAY;
        if (nightsLeft <= 0 || level + 1 >= levels.length) {
            return yards;
        }
        int may = way.set;
        if (may == 0) {
            return yards + sumBehind(level, NONE, nightsLeft, greatest);
        }
        int best = NONE;
        for (int s = 0; s < plan.streets.count; s++) {
            if ((may & 1 << s) != 0) {
                int sum = sumBehind(level, s, nightsLeft, greatest);
                boolean isBetter = greatest ? sum > best : sum < best;
                best = best == NONE || isBetter ? sum : best;
            }
        }
        return yards + best;
    }

    private int sumBehind(int level, int shuts, int nightsLeft, boolean greatest) {
        Days next = levels[level + 1];
        next.copyFrom(levels[level]);
        next.next(shuts, plan.nights);
        return bestSum(level + 1, nightsLeft - 1, greatest);
    }

    /** The draft is a copy of the plan, but for the yards. */
    private boolean isPassedWithCarts(int street, int set) {
        for (int s = 0; s < plan.streets.count; s++) {
            int longer = (set & 1 << s) != 0 ? plan.cart : 0;
            draft.streets.yards[s] = plan.streets.yards[s] + longer;
        }
        findWay(draft, today);
        return (way.set & 1 << street) != 0;
    }

    private int firstWrongNight(Plan of) {
        trial.start();
        for (int night = 0; night < toldCount; night++) {
            if (passNight(of, trial) != told[night]) {
                return night;
            }
        }
        return NONE;
    }

    /** Streets, or lanes: paid is the price of a cart of the one, the cost of the other. */
    private static final class Roads {
        final int[] from;
        final int[] to;
        final int[] yards;
        final int[] paid;
        int count = 0;

        Roads(int most) {
            from = new int[most];
            to = new int[most];
            yards = new int[most];
            paid = new int[most];
        }

        boolean has(int road) {
            return road >= 0 && road < count;
        }

        void add(int oneEnd, int otherEnd, int length, int pay) {
            if (count >= from.length) {
                return;
            }
            from[count] = oneEnd;
            to[count] = otherEnd;
            yards[count] = length;
            paid[count] = pay;
            count++;
        }

        void copyFrom(Roads other) {
            count = 0;
            for (int r = 0; r < other.count; r++) {
                add(other.from[r], other.to[r], other.yards[r], other.paid[r]);
            }
        }

        int tell(int road, int what) {
            switch (what) {
                case 0: return from[road];
                case 1: return to[road];
                case 2: return yards[road];
                case 3: return paid[road];
                default: return OUTSIDE;
            }
        }

        int paidFor(int set) {
            int sum = 0;
            for (int r = 0; r < count; r++) {
                if ((set & 1 << r) != 0) {
                    sum += paid[r];
                }
            }
            return sum;
        }

        int leaving(int side) {
            int out = 0;
            for (int r = 0; r < count; r++) {
                if (((side >> from[r] ^ side >> to[r]) & 1) != 0) {
                    out++;
                }
            }
            return out;
        }
    }

    /** What texts have told. */
    private static final class Plan {
        static final int PRICE_AT_FIRST = 1;

        final Roads streets = new Roads(MOST_ROADS);
        final Roads lanes = new Roads(MOST_LANES);
        int corners;
        int market;
        int quay;
        boolean hasOddEnds;
        int oddMarket;
        int oddQuay;
        int kind;
        int nights;
        int cart;

        Plan() {
            begin(4);
        }

        void begin(int howManyCorners) {
            corners = howManyCorners;
            streets.count = 0;
            lanes.count = 0;
            market = 0;
            quay = 1;
            hasOddEnds = false;
            kind = 0;
            nights = 2;
            cart = 10;
        }

        void copyFrom(Plan other) {
            corners = other.corners;
            streets.copyFrom(other.streets);
            lanes.copyFrom(other.lanes);
            market = other.market;
            quay = other.quay;
            hasOddEnds = other.hasOddEnds;
            oddMarket = other.oddMarket;
            oddQuay = other.oddQuay;
            kind = other.kind;
            nights = other.nights;
            cart = other.cart;
        }

        /** Whose ends a day has: 0 those of even days, 1 those of odd ones. */
        int turnOf(int day) {
            return hasOddEnds ? day & 1 : 0;
        }

        int marketOf(int day) {
            return turnOf(day) == 0 ? market : oddMarket;
        }

        int quayOf(int day) {
            return turnOf(day) == 0 ? quay : oddQuay;
        }

        void buildLanes(int set) {
            for (int l = 0; l < lanes.count; l++) {
                if ((set & 1 << l) != 0) {
                    streets.add(lanes.from[l], lanes.to[l], lanes.yards[l], PRICE_AT_FIRST);
                }
            }
        }
    }

    /** A day, and for how many days each street is shut, that day too. */
    private static final class Days {
        int gone = 0;
        final int[] shut = new int[MOST_ROADS];

        void start() {
            gone = 0;
            Arrays.fill(shut, 0);
        }

        void copyFrom(Days other) {
            gone = other.gone;
            System.arraycopy(other.shut, 0, shut, 0, shut.length);
        }

        void next(int shuts, int nights) {
            for (int s = 0; s < shut.length; s++) {
                if (shut[s] > 0) {
                    shut[s]--;
                }
            }
            if (shuts >= 0 && shuts < shut.length) {
                shut[shuts] = nights;
            }
            gone++;
        }

        int shutSet() {
            int set = 0;
            for (int s = 0; s < shut.length; s++) {
                if (shut[s] > 0) {
                    set |= 1 << s;
                }
            }
            return set;
        }
    }

    /** The shortest way of one day. */
    private static final class Way {
        /** Above every sum of yards that a way can have. */
        static final int NO_WAY = 1000000;

        final int[] street = new int[MOST_CORNERS];
        int count = 0;
        int set = 0;
        int yards = 0;
        private final int[] far = new int[MOST_CORNERS];

        boolean isThere() {
            return count > 0;
        }

        void find(Roads roads, int[] shut, int market, int quay) {
            count = 0;
            set = 0;
            measure(roads, shut, quay);
            yards = far[market];
            if (yards < NO_WAY) {
                walk(roads, shut, market, quay);
            }
        }

        /** How far each corner is from the quay. */
        private void measure(Roads roads, int[] shut, int quay) {
            Arrays.fill(far, NO_WAY);
            far[quay] = 0;
            boolean isNearer = true;
            for (int round = 0; round < MOST_CORNERS && isNearer; round++) {
                isNearer = false;
                for (int s = 0; s < roads.count; s++) {
                    if (shut[s] == 0 && comesNearer(roads.from[s], roads.to[s], roads.yards[s])) {
                        isNearer = true;
                    }
                }
            }
        }

        private boolean comesNearer(int one, int other, int length) {
            if (far[one] > far[other] + length) {
                far[one] = far[other] + length;
                return true;
            }
            if (far[other] > far[one] + length) {
                far[other] = far[one] + length;
                return true;
            }
            return false;
        }

        private void walk(Roads roads, int[] shut, int market, int quay) {
            int at = market;
            for (int step = 0; step < street.length && at != quay; step++) {
                int next = leastOnward(roads, shut, at);
                if (next == NONE) {
                    return;
                }
                street[count] = next;
                count++;
                set |= 1 << next;
                at = roads.from[next] == at ? roads.to[next] : roads.from[next];
            }
        }

        private int leastOnward(Roads roads, int[] shut, int at) {
            for (int s = 0; s < roads.count; s++) {
                int left = far[at] - roads.yards[s];
                boolean leads = roads.from[s] == at && far[roads.to[s]] == left
                        || roads.to[s] == at && far[roads.from[s]] == left;
                if (shut[s] == 0 && leads) {
                    return s;
                }
            }
            return NONE;
        }
    }

    private abstract static class Council {
        /** The street that it shuts in the night behind a day with this way; NONE. */
        final int shuts(Way way, Roads streets) {
            return way.isThere() ? pick(way, streets) : NONE;
        }

        abstract int pick(Way way, Roads streets);

        final boolean isOf(int kind) {
            switch (kind) {
                case 0: return true;
                case 1: return this instanceof First;
                case 2: return this instanceof Last;
                case 3: return this instanceof Longest;
                case 4: return this instanceof Least;
                default: return false;
            }
        }
    }

    private static class First extends Council {
        int pick(Way way, Roads streets) {
            return way.street[0];
        }
    }

    private static final class Last extends First {
        int pick(Way way, Roads streets) {
            return way.street[way.count - 1];
        }
    }

    private static class Longest extends Council {
        int pick(Way way, Roads streets) {
            int best = way.street[0];
            for (int i = 1; i < way.count; i++) {
                int s = way.street[i];
                int more = streets.yards[s] - streets.yards[best];
                if (more > 0 || more == 0 && s < best) {
                    best = s;
                }
            }
            return best;
        }
    }

    private static final class Least extends Longest {
        int pick(Way way, Roads streets) {
            int best = way.street[0];
            for (int i = 1; i < way.count; i++) {
                best = Math.min(best, way.street[i]);
            }
            return best;
        }
    }

    /** How it stood on day after day, to find where it comes round. */
    private static final class Trail {
        private static final int HALF = MOST_STREETS / 2;

        /** Both halves of the streets, as one long would not hold them all. */
        private final long[] low = new long[ROUND_DAYS + 1];
        private final long[] high = new long[ROUND_DAYS + 1];

        void put(int day, Days days, int turn) {
            if (day < 0 || day >= low.length) {
                return;
            }
            low[day] = halfOf(days, 0) * 2 + turn;
            high[day] = halfOf(days, HALF);
        }

        private long halfOf(Days days, int first) {
            long half = 0;
            for (int s = first; s < first + HALF; s++) {
                half = half << 7 | days.shut[s];
            }
            return half;
        }

        /** The first day that was like this one: this one itself, if no day ahead of it was. */
        int firstLike(int day) {
            for (int before = 0; before < day && day < low.length; before++) {
                if (low[before] == low[day] && high[before] == high[day]) {
                    return before;
                }
            }
            return day;
        }
    }

    /** The text, and the reading of it, token by token. */
    private static final class Text {
        private static final int WORD = 0, NUMBER = 1, SIGN = 2, BLANK = 3, END = 4;

        int length = 0;
        int lines = 0;
        private final int[] bytes = new int[MOST_BYTES];
        private final int[] sorts = new int[MOST_BYTES];
        /** Of the token read last: its sort, where it begins, where it ends, which number it is. */
        private int sort;
        private int start;
        private int at;
        private int value;
        private int corner;
        private int otherCorner;

        boolean append(long more, int n) {
            if (length + n > bytes.length) {
                return false;
            }
            for (int i = 0; i < n; i++) {
                bytes[length] = (int) (more >> 8 * i & 255);
                sorts[length] = sortOf(bytes[length]);
                length++;
            }
            return true;
        }

        /** Does the lines on the plan up to the first fault: its place; NONE. */
        int readInto(Plan plan) {
            at = 0;
            for (lines = 1; lines <= MOST_LINES; lines++) {
                if (!readLine(plan)) {
                    return start;
                }
                readToken();
                if (sort == END) {
                    return NONE;
                }
                if (sort != SIGN || bytes[start] != ';') {
                    return start;
                }
            }
            return start;
        }

        /** Where it answers false, the token read last is the fault; so with all that it calls. */
        private boolean readLine(Plan plan) {
            readToken();
            if (sort != WORD) {
                return false;
            }
            if (spells("town")) {
                return readTown(plan);
            }
            if (spells("street")) {
                return readStreet(plan);
            }
            if (spells("price")) {
                return readPrice(plan);
            }
            if (spells("ends")) {
                return readEnds(plan);
            }
            if (spells("also")) {
                return readOddEnds(plan);
            }
            if (spells("lane")) {
                return readLane(plan);
            }
            if (spells("cart")) {
                return readCart(plan);
            }
            return readCouncil(plan, kindSpelt());
        }

        private boolean readTown(Plan plan) {
            if (!readNumber(2, MOST_CORNERS)) {
                return false;
            }
            plan.begin(value);
            return true;
        }

        private boolean readStreet(Plan plan) {
            if (plan.streets.count >= MOST_STREETS || !readCorners(plan) || !readNumber(1, MOST_YARDS)) {
                return false;
            }
            plan.streets.add(corner, otherCorner, value, Plan.PRICE_AT_FIRST);
            return true;
        }

        private boolean readPrice(Plan plan) {
            if (!readNumber(0, plan.streets.count - 1)) {
                return false;
            }
            int street = value;
            if (!readNumber(0, 99)) {
                return false;
            }
            plan.streets.paid[street] = value;
            return true;
        }

        private boolean readEnds(Plan plan) {
            if (!readCorners(plan)) {
                return false;
            }
            plan.market = corner;
            plan.quay = otherCorner;
            return true;
        }

        private boolean readOddEnds(Plan plan) {
            if (!readCorners(plan)) {
                return false;
            }
            plan.hasOddEnds = true;
            plan.oddMarket = corner;
            plan.oddQuay = otherCorner;
            return true;
        }

        private boolean readLane(Plan plan) {
            if (plan.lanes.count >= MOST_LANES || !readCorners(plan) || !readNumber(1, MOST_YARDS)) {
                return false;
            }
            int yards = value;
            if (!readNumber(0, 99)) {
                return false;
            }
            plan.lanes.add(corner, otherCorner, yards, value);
            return true;
        }

        private boolean readCart(Plan plan) {
            if (!readNumber(1, MOST_YARDS)) {
                return false;
            }
            plan.cart = value;
            return true;
        }

        private boolean readCouncil(Plan plan, int kind) {
            if (kind == NONE || !readNumber(1, 9)) {
                return false;
            }
            plan.kind = kind;
            plan.nights = value;
            return true;
        }

        private int kindSpelt() {
            if (spells("first")) {
                return 0;
            }
            if (spells("last")) {
                return 1;
            }
            if (spells("longest")) {
                return 2;
            }
            return spells("least") ? 3 : NONE;
        }

        private boolean readCorners(Plan plan) {
            if (!readNumber(0, plan.corners - 1)) {
                return false;
            }
            corner = value;
            if (!readNumber(0, plan.corners - 1)) {
                return false;
            }
            otherCorner = value;
            return corner != otherCorner;
        }

        private boolean readNumber(int least, int greatest) {
            readToken();
            return sort == NUMBER && at - start <= 2 && value >= least && value <= greatest;
        }

        private void readToken() {
            while (at < length && sorts[at] == BLANK) {
                at++;
            }
            start = at;
            sort = at < length ? sorts[at] : END;
            value = 0;
            int limit = sort == SIGN ? start + 1 : length;
            while (at < limit && sorts[at] == sort) {
                // Right for one digit or two: a longer row is a fault, and a word has no value.
                value = value * 10 + bytes[at] - '0';
                at++;
            }
        }

        private boolean spells(String word) {
            if (at - start != word.length()) {
                return false;
            }
            for (int i = 0; i < word.length(); i++) {
                if (bytes[start + i] != word.charAt(i)) {
                    return false;
                }
            }
            return true;
        }

        private static int sortOf(int sign) {
            if (sign >= 'a' && sign <= 'z') {
                return WORD;
            }
            if (sign >= '0' && sign <= '9') {
                return NUMBER;
            }
            return sign == ' ' ? BLANK : SIGN;
        }
    }
}
