import java.util.function.Supplier;

/** Each call, promise by promise: what it takes, what it refuses, and that nothing changes then. */
final class CallsPart extends Part {
    private final Supplier<ShutWays> fresh = ShutWays::new;
    private final Supplier<ShutWays> busy = Towns::busy;

    CallsPart(Sentences say) {
        super(say);
    }

    void all() {
        say.says("Refused, and nothing changes: UNKNOWN (no such STREET, LANE), OUTSIDE (another number is not as told), NOT"
                + " (not now: as told), FULL: the first of these that fits.", this::firstRefusal);
        toldCalls();
        dayCalls();
        foretoldCalls();
        nightCalls();
    }

    private void toldCalls() {
        say.says("`ShutWays()`: Four CORNERS, no STREETS.", this::newObject);
        say.says("`int write(long bytes, int n)`: n (1 .. 8) bytes more of THE TEXT, byte i being bytes >> 8 i & 255: how"
                + " many it has. OUTSIDE; FULL.", this::write);
        say.says("`int erase()`: THE TEXT is empty: how many bytes it had.", this::erase);
        say.says("`int fault()`: The place of the FAULT (the byte with which the TOKEN begins, or the length); NONE.",
                this::fault);
        say.says("`int town()`: THE TEXT's LINES are done, and it is empty then: how many there were. NOT: it has a FAULT.",
                this::town);
        say.says("`int street(int street, int what)`: Of a STREET: its CORNERS (what 0, 1), YARDS (2), PRICE (3), for how"
                + " many DAYS, TODAY too, it is shut (4; 0: it is open). UNKNOWN; OUTSIDE.", this::street);
        say.says("`int lane(int lane, int what)`: Of a LANE: its CORNERS (what 0, 1), YARDS (2), COST (3). UNKNOWN; OUTSIDE.",
                this::lane);
        say.says("`int as(int kind)`: THE COUNCIL taken as a KIND (0 .. 4, as they are over one another): what it shuts THIS"
                + " NIGHT; NONE. OUTSIDE; NOT: it is none such.", this::as);
    }

    private void dayCalls() {
        say.says("`int way(int what)`: THE WAY of TODAY: YARDS (what 0), how many STREETS (1), the i-th (10 and i, i 0 .. 11);"
                + " NONE: there is none, or not so many. OUTSIDE.", this::way);
        say.says("`int go(int n)`: n NIGHTS (1 .. 999) go: how many have gone in all. OUTSIDE; FULL: above 9999 in all.",
                this::go);
        say.says("`int flood(int street, int n)`: A FLOOD for n DAYS (1 .. 99): for how many the STREET is shut then. UNKNOWN;"
                + " OUTSIDE.", this::flood);
        say.says("`int fair()`: A FAIR: how many STREETS were shut.", this::fair);
        say.says("`int keep(int k)`: DAYS, what is shut for how long are kept (k 0, 1): DAYS. UNKNOWN: no such k.", this::keep);
        say.says("`int back(int k)`: It is as it was kept: DAYS. UNKNOWN; NOT: nothing was kept since the last text.",
                this::back);
    }

    private void foretoldCalls() {
        say.says("`int later(int t)`: YARDS of THE WAY in t DAYS; NONE. OUTSIDE.", this::later);
        say.says("`int never()`: NEVER: in how many DAYS; NONE.", this::never);
        say.says("`int apart()`: APART.", this::apart);
        say.says("`int round(int what)`: ROUND: DAYS ahead (what 0), DAYS later (1); NONE. OUTSIDE.", this::round);
        say.says("`int passed(int street, int days)`: PASSED. UNKNOWN; OUTSIDE.", this::passed);
        say.says("`int most(int days)`: MOST PASSED; NONE: no STREET is. OUTSIDE.", this::most);
        say.says("`int build(int days, int far, int what)`: LANES: COST (what 0), the set by bits (1); NONE. OUTSIDE.",
                this::build);
        say.says("`int chosen(int nights, int what)`: CHOSEN: the least (what 0), the greatest (1) sum. OUTSIDE.", this::chosen);
        say.says("`int carts(int street, int what)`: CARTS for a STREET: PRICE (what 0), the set by bits (1); NONE. UNKNOWN;"
                + " OUTSIDE.", this::carts);
    }

    private void nightCalls() {
        say.says("`int night(int street)`: A NIGHT: a STREET was shut, or nothing (NONE): how many. UNKNOWN; FULL.",
                this::night);
        say.says("`int forget()`: NIGHTS are none: how many there were.", this::forget);
        say.says("`int judge()`: JUDGED: which (from 0); NONE: all are so.", this::judge);
        say.says("`int fits(int street, int what)`: FIT of a STREET: how many (what 0), the least (1), the greatest (2); NONE:"
                + " there are none (of 1, 2). UNKNOWN; OUTSIDE.", this::fits);
        say.says("`int count(int what)`: 0 CORNERS, 1 STREETS, 2 LANES, 3 KIND of THE COUNCIL, 4 k, 5 YARDS of a CART, 6 DAYS"
                + " that have gone, 7 NIGHTS told, 8 STREETS that are shut, by bits, 9 MARKET of TODAY, 10 QUAY, 11 bytes of"
                + " THE TEXT. OUTSIDE.", this::count);
    }

    /** Calls that two refusals fit: the one that is named first is due. */
    private void firstRefusal() {
        Supplier<ShutWays> fullText = Towns::busyWithFullText;
        dueUnchanged("write of 0, OUTSIDE and not FULL", fullText, x -> x.write(32, 0), OUTSIDE);
        dueUnchanged("write of 9, OUTSIDE and not FULL", fullText, x -> x.write(32, 9), OUTSIDE);
        dueUnchanged("street, UNKNOWN and not OUTSIDE", busy, x -> x.street(5, 5), UNKNOWN);
        dueUnchanged("lane, UNKNOWN and not OUTSIDE", busy, x -> x.lane(2, 4), UNKNOWN);
        dueUnchanged("as, OUTSIDE and not NOT", busy, x -> x.as(5), OUTSIDE);
        Supplier<ShutWays> late = () -> Towns.busyFor(9999);
        dueUnchanged("go of 0, OUTSIDE and not FULL", late, x -> x.go(0), OUTSIDE);
        dueUnchanged("go of 1000, OUTSIDE and not FULL", late, x -> x.go(1000), OUTSIDE);
        dueUnchanged("flood, UNKNOWN and not OUTSIDE", busy, x -> x.flood(5, 100), UNKNOWN);
        dueUnchanged("back, UNKNOWN and not NOT", fresh, x -> x.back(2), UNKNOWN);
        dueUnchanged("passed, UNKNOWN and not OUTSIDE", busy, x -> x.passed(5, 100), UNKNOWN);
        dueUnchanged("carts, UNKNOWN and not OUTSIDE", busy, x -> x.carts(5, 2), UNKNOWN);
        dueUnchanged("night, UNKNOWN and not FULL", Towns::busyWithFullNights, x -> x.night(5), UNKNOWN);
        dueUnchanged("fits, UNKNOWN and not OUTSIDE", busy, x -> x.fits(5, 3), UNKNOWN);
    }

    // ---- 1 to 8: what is told

    private void newObject() {
        int[] due = {4, 0, 0, 0, 2, 10, 0, 0, 0, 0, 1, 0};
        ShutWays x = new ShutWays();
        for (int what = 0; what < due.length; what++) {
            due("count(" + what + ")", x.count(what), due[what]);
        }
        due("street 0", x.street(0, 0), UNKNOWN);
        due("lane 0", x.lane(0, 0), UNKNOWN);
        due("nothing is kept as 0", x.back(0), NOT);
        due("nothing is kept as 1", x.back(1), NOT);
        dueNoWay("no way", x);
    }

    private void write() {
        ShutWays each = new ShutWays();
        int bytes = 0;
        for (int n = 1; n <= 8; n++) {
            bytes += n;
            due("of " + n, each.write(-1L, n), bytes);
        }
        for (int i = 0; i < 8; i++) {
            ShutWays x = new ShutWays();
            x.write(0x2020_2020_2020_2020L | 255L << 8 * i, 8);
            due("byte " + i, x.fault(), i);
        }
        ShutWays part = new ShutWays();
        part.write(0x7A7A_3120_7472_6163L, 6);
        due("bytes behind n are not taken", part.fault(), NONE);
        Numbered ofBlanks = (x, n) -> x.write(0x2020_2020_2020_2020L, n);
        dueUnchanged("write", fresh, ofBlanks, OUTSIDE, 0, 9, -1, LEAST_INT, GREATEST_INT);
        dueUnchanged("write", busy, ofBlanks, OUTSIDE, 0, 9);
        for (int n = 1; n <= 8; n++) {
            int most = 200 - n;
            due("the last " + n, ofBlanks.on(Towns.busyWithText(most), n), 200);
            dueUnchanged("one more than there may be", () -> Towns.busyWithText(most + 1), ofBlanks, FULL, n);
        }
        dueUnchanged("write when full", Towns::busyWithFullText, ofBlanks, FULL, 1, 8);
    }

    private void erase() {
        due("empty", new ShutWays().erase(), 0);
        ShutWays one = new ShutWays();
        one.write(32, 1);
        due("one", one.erase(), 1);
        ShutWays full = Towns.busyWithFullText();
        due("full", full.erase(), 200);
        due("bytes", full.count(11), 0);
        due("erased before", full.erase(), 0);
        due("nothing to do", full.town(), NOT);
        due("its fault", full.fault(), 0);
        due("room for more", full.write(32, 8), 8);
        dueUnchanged("erase of an empty text", fresh, ShutWays::erase, 0);
        due("days stay", full.count(6), 6);
        due("nights stay", full.count(7), 3);
        due("what is kept stays", full.back(0), 3);
    }

    private void fault() {
        dueFault("", 0);
        dueFault("x", 0);
        dueFault("cart", 4);
        dueFault("cart ", 5);
        dueFault("cart   xyz", 7);
        dueFault("cart 1", NONE);
        dueFault(" ".repeat(199) + "x", 199);
        dueFault(" ".repeat(196) + "cart", 200);
        dueUnchanged("fault, none", busy, ShutWays::fault, NONE);
        dueUnchanged("fault", () -> withMore(";town 9"), ShutWays::fault, 21);
    }

    private static ShutWays withMore(String text) {
        ShutWays x = Towns.busy();
        Check.write(x, text);
        return x;
    }

    private void town() {
        ShutWays x = Towns.busy();
        due("two lines", x.town(), 2);
        due("it is empty", x.count(11), 0);
        due("once more", x.town(), NOT);
        ShutWays full = new ShutWays();
        Check.write(full, Towns.FULL);
        due("twelve lines", full.town(), 12);
        due("it is empty", full.count(11), 0);
        ShutWays one = new ShutWays();
        Check.write(one, "town 8");
        due("one line", one.town(), 1);
        dueUnchanged("an empty text", fresh, ShutWays::town, NOT);
        dueUnchanged("a fault at its end", () -> withMore(";"), ShutWays::town, NOT);
        dueUnchanged("a fault behind lines", () -> withMore(";town 8;street 0 1 1;first 9;also 1 0;cart 100"),
                ShutWays::town, NOT);
        dueUnchanged("a thirteenth line", () -> withMore(";cart 8".repeat(11)), ShutWays::town, NOT);
        dueUnchanged("a fifth lane", () -> withMore(";lane 0 1 1 1".repeat(3)), ShutWays::town, NOT);
        dueUnchanged("a thirteenth street", () -> withMore(";street 0 1 1".repeat(8)), ShutWays::town, NOT);
    }

    private void street() {
        ShutWays x = Check.told("town 8;street 7 1 99;street 0 1 1;price 0 0");
        int[] due = {7, 1, 99, 0, 0};
        for (int what = 0; what < due.length; what++) {
            due("what " + what, x.street(0, what), due[what]);
        }
        due("open", x.street(1, 4), 0);
        x.go(1);
        due("shut, today too", x.street(1, 4), 2);
        x.go(1);
        due("shut today", x.street(1, 4), 1);
        x.go(1);
        due("open again", x.street(1, 4), 0);
        ShutWays full = Check.told(Towns.FULL);
        due("the last of twelve", full.street(11, 2), 1);
        dueUnchanged("a thirteenth street", () -> Check.told(Towns.FULL), (y, s) -> y.street(s, 2), UNKNOWN, 12, 13, 16);
        dueUnchanged("street", fresh, (y, s) -> y.street(s, 0), UNKNOWN, 0, -1);
        dueUnchanged("street", busy, (y, s) -> y.street(s, 4), UNKNOWN, 5, -1, LEAST_INT, GREATEST_INT);
        dueUnchanged("street, what", busy, (y, what) -> y.street(4, what), OUTSIDE, 5, -1, LEAST_INT, GREATEST_INT);
    }

    private void lane() {
        ShutWays x = Check.told("town 8;lane 7 0 99 0;lane 0 7 1 99;lane 0 1 1 1;lane 6 7 5 4");
        int[] due = {6, 7, 5, 4};
        for (int what = 0; what < due.length; what++) {
            due("what " + what, x.lane(3, what), due[what]);
        }
        due("a fifth", x.lane(4, 0), UNKNOWN);
        dueUnchanged("lane", fresh, (y, l) -> y.lane(l, 0), UNKNOWN, 0, -1);
        dueUnchanged("lane", busy, (y, l) -> y.lane(l, 0), UNKNOWN, 2, -1, LEAST_INT, GREATEST_INT);
        dueUnchanged("lane, what", busy, (y, what) -> y.lane(1, what), OUTSIDE, 4, -1, LEAST_INT, GREATEST_INT);
    }

    private void as() {
        ShutWays x = Check.told(Towns.CHAIN, "least 1");
        due("as 0", x.as(0), 0);
        due("as 4", x.as(4), 0);
        due("nothing to shut", Check.told("least 1").as(4), NONE);
        dueUnchanged("as", fresh, ShutWays::as, OUTSIDE, 5, -1);
        dueUnchanged("as", busy, ShutWays::as, OUTSIDE, 5, -1, LEAST_INT, GREATEST_INT);
        dueUnchanged("as, none such", busy, ShutWays::as, NOT, 3, 4);
        dueUnchanged("as, none such", fresh, ShutWays::as, NOT, 2, 3, 4);
        dueUnchanged("as", busy, ShutWays::as, 3, 0, 1, 2);
    }

    // ---- 9 to 14: days and nights

    private void way() {
        dueWay("seven streets", Check.told(Towns.LONG), 693, 0, 1, 2, 3, 4, 5, 6);
        dueWay("one street", Check.told("town 2;street 0 1 1"), 1, 0);
        dueNoWay("none", new ShutWays());
        int[] outside = {-1, 2, 9, 22, LEAST_INT, LEAST_INT + 9, LEAST_INT + 10, GREATEST_INT};
        dueUnchanged("way", busy, ShutWays::way, OUTSIDE, outside);
        dueUnchanged("way, where there is none", fresh, ShutWays::way, OUTSIDE, outside);
        dueUnchanged("way", busy, ShutWays::way, 5, 0);
    }

    private void go() {
        ShutWays x = Towns.busyFor(9000);
        due("999", x.go(999), 9999);
        ShutWays one = Towns.busyFor(9998);
        due("one", one.go(1), 9999);
        due("the last day", one.count(6), 9999);
        dueUnchanged("go", fresh, ShutWays::go, OUTSIDE, 0, 1000, -1, LEAST_INT, GREATEST_INT);
        dueUnchanged("go", busy, ShutWays::go, OUTSIDE, 0, 1000);
        dueUnchanged("go from 9001", () -> Towns.busyFor(9001), ShutWays::go, FULL, 999);
        dueUnchanged("go from 9998", () -> Towns.busyFor(9998), ShutWays::go, FULL, 2, 999);
        dueUnchanged("go from 9999", () -> Towns.busyFor(9999), ShutWays::go, FULL, 1, 999);
        ShutWays back = Towns.busyFor(9999);
        back.back(0);
        due("from a day that was kept", back.go(1), 4);
        ShutWays anew = Towns.busyFor(9999);
        anew.town();
        due("behind a text", anew.go(999), 999);
    }

    private void flood() {
        for (int days : new int[] {1, 99}) {
            ShutWays x = Check.told(Towns.FULL);
            due("the first street", x.flood(0, days), days);
            due("the last street", x.flood(11, days), days);
            due("shut", x.count(8), 2049);
        }
        dueUnchanged("flood", fresh, (x, s) -> x.flood(s, 1), UNKNOWN, 0, -1);
        dueUnchanged("flood", busy, (x, s) -> x.flood(s, 1), UNKNOWN, 5, -1, LEAST_INT, GREATEST_INT);
        dueUnchanged("flood, days", busy, (x, n) -> x.flood(1, n), OUTSIDE, 0, 100, -1, LEAST_INT, GREATEST_INT);
        dueUnchanged("flood of a shut street, days", busy, (x, n) -> x.flood(4, n), OUTSIDE, 0, 100, -1, LEAST_INT, GREATEST_INT);
        dueUnchanged("flood of a thirteenth", () -> Check.told(Towns.FULL), (x, s) -> x.flood(s, 1), UNKNOWN, 12);
        dueUnchanged("flood for less", busy, x -> x.flood(4, 1), 47);
    }

    private void fair() {
        dueUnchanged("none at all", fresh, ShutWays::fair, 0);
        ShutWays x = Towns.busy();
        due("two shut", x.fair(), 2);
        due("none shut", x.count(8), 0);
        due("once more", x.fair(), 0);
        due("days stay", x.count(6), 6);
        due("what is kept stays", x.back(0), 3);
        due("and is shut then", x.street(4, 4), 50);
    }

    private void keep() {
        for (int k = 0; k <= 1; k++) {
            ShutWays x = Check.told("street 0 1 5;first 9");
            due("day 0", x.keep(k), 0);
            x.go(1);
            due("day 1, over day 0", x.keep(k), 1);
            x.go(5);
            due("day 1 is kept", x.back(k), 1);
            due("and for how long it is shut", x.street(0, 4), 9);
            due("nothing is kept as the other one", x.back(1 - k), NOT);
        }
        due("day 9999", Towns.busyFor(9999).keep(1), 9999);
        dueUnchanged("keep", fresh, ShutWays::keep, UNKNOWN, 2, -1, LEAST_INT, GREATEST_INT);
        dueUnchanged("keep", busy, ShutWays::keep, UNKNOWN, 2, -1);
    }

    private void back() {
        ShutWays x = Towns.busy();
        due("the first kept", x.back(0), 3);
        due("street 0, then", x.street(0, 4), 0);
        due("street 4, then", x.street(4, 4), 50);
        due("the second kept", x.back(1), 4);
        due("street 0, then", x.street(0, 4), 20);
        due("street 4, then", x.street(4, 4), 49);
        due("the first once more", x.back(0), 3);
        due("nights stay", x.count(7), 3);
        due("the text stays", x.count(11), 15);
        dueUnchanged("back", fresh, ShutWays::back, NOT, 0, 1);
        dueUnchanged("back", fresh, ShutWays::back, UNKNOWN, 2, -1, LEAST_INT, GREATEST_INT);
        dueUnchanged("back", busy, ShutWays::back, UNKNOWN, 2, -1);
        dueUnchanged("back behind a text", () -> done(Towns.busy()), ShutWays::back, NOT, 0, 1);
        dueUnchanged("back to what is not kept", () -> keptAs(done(Towns.busy()), 0), ShutWays::back, NOT, 1);
        dueUnchanged("back to what is not kept", () -> keptAs(done(Towns.busy()), 1), ShutWays::back, NOT, 0);
        ShutWays refused = withMore(";");
        due("a text with a fault", refused.town(), NOT);
        due("is none", refused.back(1), 4);
    }

    private static ShutWays done(ShutWays x) {
        x.town();
        return x;
    }

    private static ShutWays keptAs(ShutWays x, int k) {
        x.go(2);
        x.keep(k);
        x.go(1);
        return x;
    }

    // ---- 15 to 23: foretold

    private void later() {
        ShutWays x = Check.told("street 0 1 5;first 1");
        due("in 0 days", x.later(0), 5);
        due("in 1 day", x.later(1), NONE);
        due("in 98 days", x.later(98), 5);
        due("in 99 days", x.later(99), NONE);
        dueUnchanged("later", fresh, ShutWays::later, OUTSIDE, 100, -1);
        dueUnchanged("later", busy, ShutWays::later, OUTSIDE, 100, -1, LEAST_INT, GREATEST_INT);
    }

    private void never() {
        dueUnchanged("today", fresh, ShutWays::never, 0);
        dueUnchanged("day 399", () -> after(Towns.longWithWay(), 1), ShutWays::never, 399);
        dueUnchanged("none", Towns::longWithWay, ShutWays::never, NONE);
    }

    private static ShutWays after(ShutWays x, int nights) {
        x.go(nights);
        return x;
    }

    private void apart() {
        dueUnchanged("the fewest", fresh, ShutWays::apart, 0);
        dueUnchanged("the most", () -> Check.told(Towns.FULL), ShutWays::apart, 12);
    }

    private void round() {
        dueUnchanged("ahead, the fewest", fresh, x -> x.round(0), 0);
        dueUnchanged("later, the fewest", fresh, x -> x.round(1), 1);
        dueUnchanged("none", Towns::longNotRound, ShutWays::round, NONE, 0, 1);
        dueUnchanged("round", fresh, ShutWays::round, OUTSIDE, 2, -1);
        dueUnchanged("round", busy, ShutWays::round, OUTSIDE, 2, -1, LEAST_INT, GREATEST_INT);
    }

    private void passed() {
        ShutWays x = Check.told(Towns.FULL);
        due("today", x.passed(0, 1), 1);
        due("in 99 days", x.passed(0, 99), 33);
        due("the last street", x.passed(11, 99), 0);
        dueUnchanged("passed", fresh, (y, s) -> y.passed(s, 1), UNKNOWN, 0, -1);
        dueUnchanged("passed", busy, (y, s) -> y.passed(s, 1), UNKNOWN, 5, -1, LEAST_INT, GREATEST_INT);
        dueUnchanged("passed, days", busy, (y, days) -> y.passed(1, days), OUTSIDE, 0, 100, -1, LEAST_INT, GREATEST_INT);
        due("a thirteenth", x.passed(12, 1), UNKNOWN);
    }

    private void most() {
        due("today", Check.told("street 0 1 5").most(1), 0);
        due("in 99 days", Check.told("street 0 1 5").most(99), 0);
        dueUnchanged("most, no street", fresh, ShutWays::most, NONE, 1, 99);
        dueUnchanged("most", fresh, ShutWays::most, OUTSIDE, 0, 100);
        dueUnchanged("most", busy, ShutWays::most, OUTSIDE, 0, 100, -1, LEAST_INT, GREATEST_INT);
    }

    private void build() {
        ShutWays x = Check.told("lane 0 1 1 99;lane 0 1 1 98;first 1");
        due("cost, the fewest days and yards", x.build(1, 1, 0), 98);
        due("set", x.build(1, 1, 1), 2);
        due("cost, the most days and yards", x.build(60, 999, 0), 197);
        due("set", x.build(60, 999, 1), 3);
        dueUnchanged("build", fresh, (y, what) -> y.build(60, 999, what), NONE, 0, 1);
        dueUnchanged("build, days", busy, (y, days) -> y.build(days, 1, 0), OUTSIDE, 0, 61, -1, LEAST_INT, GREATEST_INT);
        dueUnchanged("build, far", busy, (y, far) -> y.build(1, far, 0), OUTSIDE, 0, 1000, -1, LEAST_INT, GREATEST_INT);
        dueUnchanged("build, what", busy, (y, what) -> y.build(1, 1, what), OUTSIDE, 2, -1, LEAST_INT, GREATEST_INT);
    }

    private void chosen() {
        due("one night, the least", new ShutWays().chosen(1, 0), 1998);
        due("five nights, the greatest", new ShutWays().chosen(5, 1), 5994);
        dueUnchanged("chosen, nights", fresh, (x, nights) -> x.chosen(nights, 0), OUTSIDE, 0, 6);
        dueUnchanged("chosen, nights", busy, (x, nights) -> x.chosen(nights, 1), OUTSIDE, 0, 6, -1, LEAST_INT, GREATEST_INT);
        dueUnchanged("chosen, what", busy, (x, what) -> x.chosen(5, what), OUTSIDE, 2, -1, LEAST_INT, GREATEST_INT);
    }

    private void carts() {
        ShutWays x = Check.told(Towns.FULL);
        due("the last street, price", x.carts(11, 0), 11);
        due("the last street, set", x.carts(11, 1), 2047);
        due("a thirteenth", x.carts(12, 0), UNKNOWN);
        dueUnchanged("carts", fresh, (y, s) -> y.carts(s, 0), UNKNOWN, 0, -1);
        dueUnchanged("carts", busy, (y, s) -> y.carts(s, 1), UNKNOWN, 5, -1, LEAST_INT, GREATEST_INT);
        dueUnchanged("carts, what", busy, (y, what) -> y.carts(2, what), OUTSIDE, 2, -1, LEAST_INT, GREATEST_INT);
        dueUnchanged("carts, what, of a shut street", busy, (y, what) -> y.carts(0, what), OUTSIDE, 2, -1);
        dueUnchanged("carts of a shut street", busy, (y, what) -> y.carts(0, what), NONE, 0, 1);
    }

    // ---- 24 to 28: nights told

    private void night() {
        ShutWays x = Check.told(Towns.FULL);
        due("the first street", x.night(0), 1);
        due("the last street", x.night(11), 2);
        due("nothing", x.night(NONE), 3);
        due("nothing, where there is no street", new ShutWays().night(NONE), 1);
        dueUnchanged("night", fresh, ShutWays::night, UNKNOWN, 0, -2);
        dueUnchanged("night", busy, ShutWays::night, UNKNOWN, 5, -2, LEAST_INT, GREATEST_INT);
        dueUnchanged("a thirteenth street", () -> Check.told(Towns.FULL), ShutWays::night, UNKNOWN, 12);
        dueUnchanged("a thirteenth night", Towns::busyWithFullNights, ShutWays::night, FULL, 0, 4, NONE);
        ShutWays full = Towns.busyWithFullNights();
        full.forget();
        due("room again", full.night(4), 1);
    }

    private void forget() {
        dueUnchanged("none told", fresh, ShutWays::forget, 0);
        ShutWays x = Towns.busyWithFullNights();
        due("twelve", x.forget(), 12);
        due("nights", x.count(7), 0);
        due("once more", x.forget(), 0);
        due("judged", x.judge(), NONE);
        due("all fit", x.fits(0, 0), 99);
        due("days stay", x.count(6), 6);
    }

    private void judge() {
        dueUnchanged("none told", fresh, ShutWays::judge, NONE);
        dueUnchanged("all are so", busy, ShutWays::judge, NONE);
        dueUnchanged("one of twelve", Towns::busyWithFullNights, ShutWays::judge, 4);
        ShutWays x = Check.told("street 0 1 5");
        x.night(NONE);
        due("the first", x.judge(), 0);
    }

    private void fits() {
        ShutWays x = Check.told(Towns.FULL);
        x.night(0);
        int[] due = {99, 1, 99};
        int[] ofFirst = {1, 1, 1};
        for (int what = 0; what <= 2; what++) {
            due("the last street, what " + what, x.fits(11, what), due[what]);
            due("the first street, what " + what, x.fits(0, what), ofFirst[what]);
        }
        x.night(11);
        due("none, how many", x.fits(0, 0), 0);
        due("none, the least", x.fits(0, 1), NONE);
        due("none, the greatest", x.fits(0, 2), NONE);
        due("a thirteenth", x.fits(12, 0), UNKNOWN);
        dueUnchanged("fits", fresh, (y, s) -> y.fits(s, 0), UNKNOWN, 0, -1);
        dueUnchanged("fits", busy, (y, s) -> y.fits(s, 0), UNKNOWN, 5, -1, LEAST_INT, GREATEST_INT);
        dueUnchanged("fits, what", busy, (y, what) -> y.fits(0, what), OUTSIDE, 3, -1, LEAST_INT, GREATEST_INT);
    }

    private void count() {
        int[] due = {6, 5, 2, 1, 2, 7, 6, 3, 17, 0, 1, 15};
        for (int what = 0; what < due.length; what++) {
            int answer = due[what];
            dueUnchanged("count", busy, ShutWays::count, answer, what);
        }
        dueUnchanged("count", fresh, ShutWays::count, OUTSIDE, 12, -1);
        dueUnchanged("count", busy, ShutWays::count, OUTSIDE, 12, -1, LEAST_INT, GREATEST_INT);
        due("9999 days", Towns.busyFor(9999).count(6), 9999);
        due("twelve nights", Towns.busyWithFullNights().count(7), 12);
        due("200 bytes", Towns.busyWithFullText().count(11), 200);
    }
}
