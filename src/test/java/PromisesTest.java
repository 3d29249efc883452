import java.io.IOException;
import java.util.Set;
import java.util.TreeSet;

/** Each promise by its number: ordinary calls, the edges that the document names, wrong calls. */
public final class PromisesTest {
    private static final int NONE = -1, UNKNOWN = -2, OUTSIDE = -3, NOT = -4, FULL = -5;

    private static final String THREE = Towns.THREE, CHAIN = Towns.CHAIN;

    private static final Check check = new Check("PromisesTest");
    private static final Set<String> tested = new TreeSet<>();

    public static void main(String[] args) throws IOException {
        newObject();
        objectsApart();
        write();
        erase();
        faultOfWords();
        faultOfNumbers();
        faultOfLines();
        town();
        townStays();
        townBegins();
        street();
        lane();
        as();
        way();
        wayOfSeveral();
        go();
        flood();
        fair();
        keepAndBack();
        later();
        never();
        apart();
        round();
        passed();
        most();
        build();
        chosen();
        carts();
        night();
        judge();
        fits();
        count();
        anyNumbers();
        int promises = new Document().promises().size();
        check.due("promises of the document", promises, 28);
        for (int number = 1; number <= promises; number++) {
            check.holds("promise " + number + " has a test", tested.contains("" + number));
        }
        check.end();
    }

    /** What is told begins with the number of the promise. */
    private static void due(String what, long got, long want) {
        tested.add(what.substring(0, Math.max(0, what.indexOf(':'))));
        check.due(what, got, want);
    }

    private static void dueCounts(String when, ShutWays x, int... counts) {
        for (int what = 0; what < counts.length; what++) {
            due(when + ": count(" + what + ")", x.count(what), counts[what]);
        }
    }

    private static void dueWay(String when, ShutWays x, int yards, int... streets) {
        due(when + ": way(0)", x.way(0), yards);
        due(when + ": way(1)", x.way(1), streets.length);
        for (int i = 0; i < 12; i++) {
            due(when + ": way(10 and " + i + ")", x.way(10 + i), i < streets.length ? streets[i] : NONE);
        }
    }

    // ---- 1 to 8: what is told

    private static void newObject() {
        dueCounts("1: new", new ShutWays(), 4, 0, 0, 0, 2, 10, 0, 0, 0, 0, 1, 0);
    }

    private static void objectsApart() {
        ShutWays one = Check.told(THREE, "first 2");
        ShutWays other = Towns.busy();
        dueCounts("1: new beside others", new ShutWays(), 4, 0, 0, 0, 2, 10, 0, 0, 0, 0, 1, 0);
        due("1: the one", one.go(1), 1);
        due("1: the other", other.go(1), 7);
        due("1: foretold of the other", other.later(9), Towns.busy().later(10));
        dueCounts("1: the one", one, 4, 5, 0, 0, 2, 10, 1, 0, 1, 0, 1, 0);
        dueWay("1: the one", one, 5, 2, 3);
    }

    private static void write() {
        ShutWays x = new ShutWays();
        for (int n : new int[] {0, 9, -1, Integer.MIN_VALUE, Integer.MAX_VALUE}) {
            due("2: write of " + n, x.write(0, n), OUTSIDE);
        }
        due("2: bytes above n are not taken", x.write(0x7A7A_3120_7472_6163L, 6), 6);
        due("2: cart 1", x.fault(), NONE);
        for (int i = 1; i <= 24; i++) {
            due("2: 8 more", x.write(-1L, 8), 6 + 8 * i);
        }
        due("2: 255 cannot stand", x.fault(), 6);
        due("2: 3 more than 198", x.write(0, 3), FULL);
        due("2: nothing changes", x.count(11), 198);
        due("2: 2 more", x.write(0, 2), 200);
        due("2: 1 more than 200", x.write(0, 1), FULL);
        due("2: OUTSIDE is ahead of FULL", x.write(0, 9), OUTSIDE);
        due("2: erased", x.erase(), 200);
        due("2: byte 7 as well", x.write(0x8000_0000_0000_0000L | 0x3120_7472_6163L, 8), 8);
        due("2: byte 6 is 0", x.fault(), 6);
    }

    private static void erase() {
        ShutWays x = Check.told(THREE);
        due("3: empty", x.erase(), 0);
        due("3: written", Check.write(x, "town 2"), 6);
        due("3: had", x.erase(), 6);
        due("3: has", x.count(11), 0);
        due("3: no town is lost", x.count(1), 5);
        due("3: nothing to do", x.town(), NOT);
    }

    private static void dueFault(ShutWays x, String text, int place) {
        due("4: fault of '" + text + "'", Check.faultOf(x, text), place);
    }

    private static void faultOfWords() {
        ShutWays x = new ShutWays();
        dueFault(x, "", 0);
        dueFault(x, " ", 1);
        for (String text : new String[] {"Town 2", "towns 2", "tow 2", "5", ";", "t 2", "xown 2", "townz 2", "TOWN 2", "council 2", "\n"}) {
            dueFault(x, text, 0);
        }
        for (String text : new String[] {"town 2", "street 0 1 1", "ends 1 0", "also 3 2", "first 1", "last 9",
                "longest 2", "least 3", "lane 0 1 99 0", "lane 0 1 1 99", "cart 99", "town 02", "  town  2  ", "street 3 0 99;price 0 0"}) {
            dueFault(x, text, NONE);
        }
        dueFault(x, "town", 4);
        dueFault(x, "town ", 5);
        dueFault(x, "town x", 5);
        dueFault(x, "town ;", 5);
        dueFault(x, "town town", 5);
        dueFault(x, "town -1", 5);
        dueFault(x, "town 4 4", 7);
        dueFault(x, "town 4 x", 7);
        dueFault(x, "town 4.", 6);
        dueFault(x, "town 4,cart 1", 6);
        dueFault(x, "cart 1;\tcart 1", 7);
    }

    private static void faultOfNumbers() {
        ShutWays x = new ShutWays();
        for (String number : new String[] {"0", "1", "9", "10", "008", "100", "4294967298", "00000000000000000000004"}) {
            dueFault(x, "town " + number, 5);
        }
        dueFault(x, "street 4 0 1", 7);
        dueFault(x, "street 0 4 1", 9);
        dueFault(x, "street 0 0 1", 9);
        dueFault(x, "street 0 1 0", 11);
        dueFault(x, "street 0 1 100", 11);
        dueFault(x, "street 0 1", 10);
        dueFault(x, "street 01 00 01", NONE);
        dueFault(x, "price 0 1", 6);
        dueFault(x, "street 0 1 1;price 1 1", 19);
        dueFault(x, "street 0 1 1;price 0 100", 21);
        dueFault(x, "street 0 1 1;price 0 99", NONE);
        dueFault(x, "ends 4 1", 5);
        dueFault(x, "ends 1 4", 7);
        dueFault(x, "ends 2 2", 7);
        dueFault(x, "also 4 1", 5);
        dueFault(x, "also 2 2", 7);
        for (String kind : new String[] {"first ", "last ", "longest ", "least "}) {
            dueFault(x, kind + "0", kind.length());
            dueFault(x, kind + "10", kind.length());
            dueFault(x, kind + "9", NONE);
            dueFault(x, kind, kind.length());
        }
        dueFault(x, "lane 4 1 1 1", 5);
        dueFault(x, "lane 1 1 1 1", 7);
        dueFault(x, "lane 0 1 0 1", 9);
        dueFault(x, "lane 0 1 1 100", 11);
        dueFault(x, "lane 0 1 1", 10);
        dueFault(x, "cart 0", 5);
        dueFault(x, "cart 100", 5);
    }

    private static void faultOfLines() {
        ShutWays x = new ShutWays();
        dueFault(x, "cart 1;", 7);
        dueFault(x, "cart 1;;cart 1", 7);
        dueFault(x, "cart 1 cart 1", 7);
        dueFault(x, "town 8;ends 6 7", NONE);
        dueFault(x, "town 2;ends 0 2", 14);
        dueFault(x, "street 0 1 1;town 2;price 0 1", 26);
        String twelve = "cart 1" + ";cart 1".repeat(11);
        dueFault(x, twelve, NONE);
        dueFault(x, twelve + ";", 83);
        dueFault(x, twelve + ";cart 1", 83);
        dueFault(x, twelve + " ", NONE);
        dueFault(x, twelve + " 1", 84);
        String lanes = "lane 0 1 1 1" + ";lane 0 1 1 1".repeat(3);
        dueFault(x, lanes, NONE);
        dueFault(x, lanes + ";lane 4", 52);
        dueFault(x, lanes + ";town 4;lane 0 1 1 1", NONE);
        ShutWays full = Check.told("street 0 1 1" + ";street 0 1 1".repeat(11));
        dueFault(full, "street 0 1 1", 0);
        dueFault(full, "cart 1; street", 8);
        dueFault(full, "price 11 1", NONE);
        dueFault(full, "price 12 1", 6);
        dueFault(full, "town 2;street 0 1 1", NONE);
        due("4: nothing was done", full.count(1), 12);
    }

    private static void town() {
        ShutWays x = Check.told(THREE, "last 3");
        x.go(2);
        x.flood(4, 9);
        x.keep(0);
        x.keep(1);
        x.night(1);
        Check.write(x, "cart 7;ends 0");
        due("5: a fault", x.town(), NOT);
        dueCounts("5: nothing changes", x, 4, 5, 0, 1, 3, 10, 2, 1, 1 << 1 | 1 << 3 | 1 << 4, 0, 1, 13);
        due("5: kept yet", x.back(1), 2);
        Check.write(x, " 3;also 1 2;lane 0 1 5 6");
        due("5: lines", x.town(), 4);
        dueCounts("5: done", x, 4, 5, 1, 1, 3, 7, 0, 0, 0, 0, 3, 0);
        due("5: nothing is kept", x.back(0), NOT);
        due("5: nothing is kept", x.back(1), NOT);
        x.go(1);
        dueCounts("5: odd ends", x, 4, 5, 1, 1, 3, 7, 1, 0, 1 << 2, 1, 2, 0);
        Check.write(x, "ends 2 3");
        due("5: one line", x.town(), 1);
        x.go(1);
        due("5: odd ends stay", x.count(9), 1);
        due("5: an empty text", x.town(), NOT);
        due("5: an empty text changes nothing", x.count(6), 1);
    }

    private static void townStays() {
        ShutWays x = Check.told("town 6;street 0 5 8;price 0 9;ends 2 3;also 5 4;longest 7;lane 1 2 3 4;cart 12");
        for (String text : new String[] {"street 1 2 3", "price 1 6", "price 1 7"}) {
            Check.write(x, text);
            due("5: one more line", x.town(), 1);
            dueCounts("5: what is not told again stays", x, 6, 2, 1, 2, 7, 12, 0, 0, 0, 2, 3, 0);
            due("5: its yards", x.street(0, 2), 8);
            due("5: its price", x.street(0, 3), 9);
            due("5: its cost", x.lane(0, 3), 4);
            x.go(1);
            due("5: odd market", x.count(9), 5);
            due("5: odd quay", x.count(10), 4);
        }
        due("5: the new price", x.street(1, 3), 7);
    }

    private static void townBegins() {
        ShutWays x = Check.told(THREE, "last 3;ends 2 3;also 3 2;lane 0 1 1 1;cart 9;price 0 5");
        Check.write(x, "town 6");
        due("5: town 6", x.town(), 1);
        dueCounts("5: as at first", x, 6, 0, 0, 0, 2, 10, 0, 0, 0, 0, 1, 0);
        x.go(1);
        due("5: no odd ends", x.count(9), 0);
        Check.write(x, "street 0 5 8;street 5 1 7;town 3;street 2 1 6");
        due("5: town behind streets", x.town(), 4);
        dueCounts("5: one street", x, 3, 1, 0);
        due("5: its yards", x.street(0, 2), 6);
        due("5: its price", x.street(0, 3), 1);
    }

    private static void street() {
        ShutWays x = Check.told(THREE, "price 3 42;first 2");
        int[] due = {3, 1, 3, 42, 0};
        for (int what = 0; what < due.length; what++) {
            due("6: street(3, " + what + ")", x.street(3, what), due[what]);
        }
        due("6: price at first", x.street(4, 3), 1);
        due("6: what 5", x.street(3, 5), OUTSIDE);
        due("6: what -1", x.street(3, -1), OUTSIDE);
        due("6: no such", x.street(5, 0), UNKNOWN);
        due("6: no such", x.street(-1, 0), UNKNOWN);
        due("6: UNKNOWN is first", x.street(5, 5), UNKNOWN);
        x.go(1);
        due("6: shut for 2 days", x.street(0, 4), 2);
        x.go(1);
        due("6: for 1 day more", x.street(0, 4), 1);
        x.go(1);
        due("6: open", x.street(0, 4), 0);
    }

    private static void lane() {
        ShutWays x = Check.told("lane 0 1 5 6;lane 3 2 99 0");
        int[] due = {3, 2, 99, 0};
        for (int what = 0; what < due.length; what++) {
            due("7: lane(1, " + what + ")", x.lane(1, what), due[what]);
        }
        due("7: cost", x.lane(0, 3), 6);
        due("7: what 4", x.lane(1, 4), OUTSIDE);
        due("7: what -1", x.lane(1, -1), OUTSIDE);
        due("7: no such", x.lane(2, 0), UNKNOWN);
        due("7: no such", x.lane(-1, 0), UNKNOWN);
        due("7: UNKNOWN is first", x.lane(2, 4), UNKNOWN);
    }

    private static void dueKinds(String council, int... answers) {
        ShutWays x = Check.told(CHAIN, council);
        for (int kind = 0; kind < answers.length; kind++) {
            due("8: " + council + " as(" + kind + ")", x.as(kind), answers[kind]);
        }
        due("8: as(5)", x.as(5), OUTSIDE);
        due("8: as(-1)", x.as(-1), OUTSIDE);
        due("8: as does not shut", x.count(8), 0);
        x.flood(0, 1);
        due("8: no way, " + council, x.as(0), NONE);
    }

    private static void as() {
        dueKinds("first 2", 2, 2, NOT, NOT, NOT);
        dueKinds("last 2", 1, 1, 1, NOT, NOT);
        dueKinds("longest 2", 3, NOT, NOT, 3, NOT);
        dueKinds("least 2", 0, NOT, NOT, 0, 0);
        ShutWays x = Check.told("street 2 1 7;street 0 3 1;street 0 2 7;longest 1");
        due("8: of several longest the least, not the first", x.as(3), 0);
    }

    // ---- 9 to 14: days and nights

    private static void way() {
        ShutWays x = Check.told(THREE);
        dueWay("9: three", x, 4, 0, 1);
        dueWay("9: chain", Check.told(CHAIN), 22, 2, 0, 3, 1);
        for (int what : new int[] {-1, 2, 9, 22, Integer.MIN_VALUE, Integer.MAX_VALUE}) {
            due("9: way(" + what + ")", x.way(what), OUTSIDE);
        }
        x.flood(1, 1);
        dueWay("9: not by a shut street", x, 5, 2, 3);
        x.flood(3, 1);
        x.flood(4, 1);
        due("9: none", x.way(0), NONE);
        due("9: none", x.way(1), NONE);
        due("9: none", x.way(10), NONE);
        due("9: none, yet outside", x.way(2), OUTSIDE);
        ShutWays y = Check.told(Towns.LONG);
        dueWay("9: by all corners", y, 693, 0, 1, 2, 3, 4, 5, 6);
    }

    private static void wayOfSeveral() {
        dueWay("9: the lesser first street", Check.told("street 2 1 2;street 0 1 3;street 0 2 1"), 3, 1);
        dueWay("9: though of more streets", Check.told("street 0 2 1;street 0 1 3;street 2 1 2"), 3, 0, 2);
        String square = "street 0 2 1;street 3 1 1;street 2 1 1;street 0 3 1";
        dueWay("9: from the market on", Check.told(square), 2, 0, 2);
        dueWay("9: and back", Check.told(square, "ends 1 0"), 2, 1, 3);
        dueWay("9: unlike behind the first street", Check.told("street 0 2 1;street 2 1 4;street 2 1 3;street 2 1 3"), 4, 0, 2);
        ShutWays x = Check.told(THREE, "ends 2 3;also 1 2");
        dueWay("9: even", x, 4, 0, 2);
        x.go(1);
        dueWay("9: odd", x, 2, 1);
    }

    private static void go() {
        ShutWays x = Check.told(THREE, "first 2");
        for (int n : new int[] {0, 1000, -1, Integer.MIN_VALUE, Integer.MAX_VALUE}) {
            due("10: go(" + n + ")", x.go(n), OUTSIDE);
        }
        due("10: one", x.go(1), 1);
        dueWay("10: the next", x, 5, 2, 3);
        due("10: another", x.go(1), 2);
        dueWay("10: the next", x, 9, 4);
        due("10: shut", x.count(8), 5);
        due("10: another", x.go(1), 3);
        dueWay("10: the first again", x, 4, 0, 1);
        due("10: many", x.go(996), 999);
        for (int i = 2; i <= 10; i++) {
            due("10: 999 more", x.go(999), 999 * i);
        }
        due("10: 10 more than 9990", x.go(10), FULL);
        due("10: nothing changes", x.count(6), 9990);
        due("10: 9 more", x.go(9), 9999);
        due("10: 1 more", x.go(1), FULL);
        due("10: OUTSIDE is first", x.go(1000), OUTSIDE);
        ShutWays none = Check.told("street 0 2 1");
        due("10: without a way", none.go(5), 5);
        due("10: nothing is shut", none.count(8), 0);
        councils();
    }

    private static void councils() {
        int[] shut = {2, 1, 3, 0};
        String[] kinds = {"first", "last", "longest", "least"};
        for (int kind = 0; kind < 4; kind++) {
            ShutWays x = Check.told(CHAIN, kinds[kind] + " 9");
            x.go(1);
            due("10: " + kinds[kind], x.count(8), 1 << shut[kind]);
            due("10: for 9 days", x.street(shut[kind], 4), 9);
            x.go(8);
            due("10: for 1 day yet", x.street(shut[kind], 4), 1);
            x.go(1);
            due("10: open", x.count(8), 0);
        }
    }

    private static void flood() {
        ShutWays x = Check.told(THREE, "first 2");
        due("11: no such", x.flood(5, 1), UNKNOWN);
        due("11: no such", x.flood(-1, 1), UNKNOWN);
        due("11: UNKNOWN is first", x.flood(5, 0), UNKNOWN);
        due("11: 0 days", x.flood(0, 0), OUTSIDE);
        due("11: 100 days", x.flood(0, 100), OUTSIDE);
        due("11: nothing changes", x.count(8), 0);
        due("11: one day", x.flood(0, 1), 1);
        dueWay("11: today too", x, 5, 2, 3);
        due("11: for longer", x.flood(0, 3), 3);
        due("11: not for less", x.flood(0, 2), 3);
        due("11: 99 days", x.flood(4, 99), 99);
        x.go(1);
        due("11: less by one", x.street(0, 4), 2);
        due("11: less by one", x.street(4, 4), 98);
        due("11: by the council", x.street(2, 4), 2);
        x.go(2);
        due("11: open again", x.street(0, 4), 0);
    }

    private static void fair() {
        ShutWays x = Check.told(THREE, "first 3");
        due("12: all open", x.fair(), 0);
        x.flood(4, 9);
        x.go(2);
        due("12: three shut", x.fair(), 3);
        due("12: none shut", x.count(8), 0);
        due("12: days stay", x.count(6), 2);
        dueWay("12: the way", x, 4, 0, 1);
    }

    private static void keepAndBack() {
        ShutWays x = Check.told(THREE, "first 2");
        for (int k : new int[] {-1, 2, Integer.MIN_VALUE, Integer.MAX_VALUE}) {
            due("13: keep(" + k + ")", x.keep(k), UNKNOWN);
            due("14: back(" + k + ")", x.back(k), UNKNOWN);
        }
        due("14: nothing kept", x.back(0), NOT);
        due("13: day 0", x.keep(0), 0);
        due("14: nothing kept as 1", x.back(1), NOT);
        x.go(2);
        x.flood(4, 7);
        due("13: day 2", x.keep(1), 2);
        x.go(5);
        x.night(0);
        due("14: day 0", x.back(0), 0);
        due("14: all open", x.count(8), 0);
        due("14: nights told stay", x.count(7), 1);
        due("14: day 2", x.back(1), 2);
        due("14: shut", x.count(8), 1 | 1 << 2 | 1 << 4);
        due("14: for how long", x.street(4, 4), 7);
        due("14: for how long", x.street(2, 4), 2);
        x.fair();
        due("14: once more", x.back(1), 2);
        due("14: what is kept stays as it was", x.street(0, 4), 1);
        due("13: over what was kept", x.keep(0), 2);
        due("14: day 2", x.back(0), 2);
    }

    // ---- 15 to 23: foretold

    private static void later() {
        ShutWays x = Check.told(THREE, "first 2");
        int[] yards = {4, 5, 9};
        for (int t : new int[] {0, 1, 2, 3, 50, 98, 99}) {
            due("15: later(" + t + ")", x.later(t), yards[t % 3]);
        }
        due("15: later(-1)", x.later(-1), OUTSIDE);
        due("15: later(100)", x.later(100), OUTSIDE);
        due("15: nothing changes", x.count(6) + x.count(8), 0);
        ShutWays one = Check.told("street 0 1 7;first 2");
        due("15: today", one.later(0), 7);
        due("15: none", one.later(1), NONE);
        due("15: none", one.later(2), NONE);
        due("15: again", one.later(3), 7);
    }

    private static void never() {
        due("16: no street", new ShutWays().never(), 0);
        due("16: one street", Check.told("street 0 1 7").never(), 1);
        due("16: three ways, two nights", Check.told(THREE, "first 2").never(), NONE);
        ShutWays x = Check.told(THREE, "first 3");
        due("16: three ways, three nights", x.never(), 3);
        x.go(2);
        due("16: two days on", x.never(), 1);
        due("16: nothing changes", x.count(6), 2);
        ShutWays y = Check.told(THREE, "first 1");
        y.flood(4, 99);
        due("16: two ways, one night", y.never(), NONE);
        ShutWays late = Towns.longWithWay();
        due("16: in 400 days is too late", late.never(), NONE);
        late.go(1);
        due("16: in 399 days", late.never(), 399);
    }

    private static void apart() {
        due("17: no street", new ShutWays().apart(), 0);
        ShutWays x = Check.told(THREE);
        due("17: three", x.apart(), 3);
        for (int s = 0; s < 5; s++) {
            x.flood(s, 9);
        }
        due("17: shut or not", x.apart(), 3);
        due("17: one bridge", Check.told("street 0 2 1;street 0 2 1;street 2 1 1").apart(), 1);
        due("17: not by the shortest way", Check.told(
                "town 6;street 0 2 1;street 2 3 1;street 3 1 1;street 0 3 9;street 2 1 9").apart(), 2);
        due("17: twelve", Check.told("town 2;street 0 1 1" + ";street 1 0 1".repeat(10), "street 0 1 1").apart(), 12);
        ShutWays turn = Check.told(THREE, "also 2 3");
        turn.go(1);
        due("17: of today", turn.apart(), 2);
    }

    private static void round() {
        due("18: no street", new ShutWays().round(0), 0);
        due("18: no street", new ShutWays().round(1), 1);
        ShutWays x = Check.told(THREE, "first 1");
        due("18: round(-1)", x.round(-1), OUTSIDE);
        due("18: round(2)", x.round(2), OUTSIDE);
        due("18: ahead", x.round(0), 1);
        due("18: later", x.round(1), 2);
        x.go(1);
        due("18: ahead, a day on", x.round(0), 0);
        due("18: later, a day on", x.round(1), 2);
        due("18: nothing changes", x.count(6), 1);
        ShutWays turns = Check.told("also 2 3");
        due("18: two turns, ahead", turns.round(0), 0);
        due("18: two turns", turns.round(1), 2);
        ShutWays one = Check.told("street 0 1 7;first 9");
        due("18: one street, ahead", one.round(0), 0);
        due("18: one street", one.round(1), 10);
        one.flood(0, 99);
        due("18: a flood, ahead", one.round(0), 90);
        due("18: a flood", one.round(1), 10);
        ShutWays eight = Check.told("town 2;street 0 1 1;street 0 1 2;street 0 1 3;street 0 1 4;street 0 1 5;"
                + "street 0 1 6;street 0 1 7;street 0 1 8;first 1");
        eight.flood(7, 5);
        due("18: the eighth street, ahead", eight.round(0), 5);
        due("18: the eighth street", eight.round(1), 2);
        roundOfManyDays();
    }

    private static void roundOfManyDays() {
        ShutWays x = Towns.longNotRound();
        due("18: 3 ahead, 998 later", x.round(0), NONE);
        due("18: 3 ahead, 998 later", x.round(1), NONE);
        x.go(1);
        due("18: 2 ahead", x.round(0), 2);
        due("18: 998 later", x.round(1), 998);
        ShutWays y = Check.told("town 4;street 1 0 2;street 0 2 2;street 2 0 9;street 2 3 7;street 0 1 11;street 1 2 6;"
                + "street 3 0 2;street 0 2 9;street 1 2 14;street 0 3 8;street 1 3 7", "ends 1 2;also 2 1;least 9");
        due("18: 5 ahead, 5960 later", y.round(1), NONE);
    }

    private static void passed() {
        ShutWays x = Check.told(THREE, "first 2");
        due("19: today", x.passed(0, 1), 1);
        due("19: three days", x.passed(0, 3), 1);
        due("19: four days", x.passed(0, 4), 2);
        due("19: not yet", x.passed(4, 2), 0);
        due("19: once", x.passed(4, 3), 1);
        due("19: 99 days", x.passed(3, 99), 33);
        due("19: no such", x.passed(5, 1), UNKNOWN);
        due("19: no such", x.passed(-1, 1), UNKNOWN);
        due("19: UNKNOWN is first", x.passed(5, 0), UNKNOWN);
        due("19: 0 days", x.passed(0, 0), OUTSIDE);
        due("19: 100 days", x.passed(0, 100), OUTSIDE);
        due("19: nothing changes", x.count(6), 0);
    }

    private static void most() {
        due("20: no street", new ShutWays().most(99), NONE);
        due("20: none is passed", Check.told("street 0 2 1").most(99), NONE);
        ShutWays x = Check.told(THREE, "first 1");
        due("20: of several the least", x.most(2), 0);
        x.go(1);
        due("20: today", x.most(1), 2);
        due("20: two days", x.most(2), 0);
        due("20: three days", x.most(3), 2);
        due("20: 0 days", x.most(0), OUTSIDE);
        due("20: 100 days", x.most(100), OUTSIDE);
        due("20: nothing changes", x.count(6), 1);
        due("20: not the first of the way", Check.told("street 2 1 1;street 0 2 5").most(1), 0);
    }

    private static void dueBuilt(ShutWays x, int days, int far, int cost, int set) {
        due("21: cost, " + days + " days, " + far + " yards", x.build(days, far, 0), cost);
        due("21: set, " + days + " days, " + far + " yards", x.build(days, far, 1), set);
    }

    private static void build() {
        ShutWays x = Check.told("lane 0 1 5 7;lane 0 1 6 3;lane 0 2 1 1;lane 2 1 1 1;first 1");
        dueBuilt(x, 1, 9, 2, 12);
        dueBuilt(x, 2, 9, 5, 14);
        dueBuilt(x, 60, 6, 5, 14);
        dueBuilt(x, 2, 5, 9, 13);
        dueBuilt(x, 1, 2, 2, 12);
        dueBuilt(x, 2, 4, NONE, NONE);
        dueBuilt(x, 1, 1, NONE, NONE);
        due("21: nothing is built", x.count(1), 0);
        due("21: 0 days", x.build(0, 1, 0), OUTSIDE);
        due("21: 61 days", x.build(61, 1, 0), OUTSIDE);
        due("21: 0 yards", x.build(1, 0, 0), OUTSIDE);
        due("21: 1000 yards", x.build(1, 1000, 0), OUTSIDE);
        due("21: what 2", x.build(1, 1, 2), OUTSIDE);
        due("21: what -1", x.build(1, 1, -1), OUTSIDE);
        dueBuilt(Check.told("lane 0 1 1 2;lane 0 1 1 2"), 1, 1, 2, 1);
        dueBuilt(Check.told("lane 2 3 1 0;lane 0 1 1 2"), 1, 999, 2, 2);
        ShutWays three = Check.told(THREE, "first 2;lane 0 1 7 30;lane 2 1 2 20");
        dueBuilt(three, 60, 9, 0, 0);
        dueBuilt(three, 2, 5, 0, 0);
        dueBuilt(three, 3, 7, 30, 1);
        three.flood(0, 60);
        three.flood(2, 60);
        three.flood(4, 60);
        dueBuilt(three, 1, 9, 30, 1);
        dueBuilt(Check.told("street 0 1 3;lane 0 1 3 1;last 1"), 2, 3, 1, 1);
        dueBuilt(new ShutWays(), 1, 999, NONE, NONE);
    }

    private static void chosen() {
        ShutWays x = Check.told(THREE, "street 2 3 1;first 2");
        due("22: one night", x.chosen(1, 0), 9);
        due("22: one night", x.chosen(1, 1), 9);
        due("22: two nights, least", x.chosen(2, 0), 14);
        due("22: two nights, greatest", x.chosen(2, 1), 18);
        due("22: 0 nights", x.chosen(0, 0), OUTSIDE);
        due("22: 6 nights", x.chosen(6, 0), OUTSIDE);
        due("22: what 2", x.chosen(1, 2), OUTSIDE);
        due("22: what -1", x.chosen(1, -1), OUTSIDE);
        due("22: nothing changes", x.count(8) + x.count(6), 0);
        ShutWays one = Check.told("street 0 1 5");
        due("22: none counts 999", one.chosen(1, 0), 1004);
        due("22: three nights", one.chosen(3, 1), 2008);
        due("22: five nights", one.chosen(5, 0), 4006);
        ShutWays turn = Check.told("street 0 1 5;street 2 3 7;also 2 3;first 1");
        due("22: ends in turn", turn.chosen(2, 1), 17);
        turn.go(1);
        due("22: from today on", turn.chosen(1, 0), 12);
        turn.flood(1, 2);
        due("22: a flood", turn.chosen(2, 0), 999 + 5 + 7);
    }

    private static void dueCarts(String when, ShutWays x, int street, int price, int set) {
        due("23: price, " + when, x.carts(street, 0), price);
        due("23: set, " + when, x.carts(street, 1), set);
    }

    private static void carts() {
        ShutWays x = Check.told(THREE);
        dueCarts("as it is", x, 0, 0, 0);
        dueCarts("the second way", x, 2, 1, 1);
        dueCarts("the third way", x, 4, 2, 5);
        dueCarts("a dear street", Check.told(THREE, "price 0 5"), 2, 1, 2);
        dueCarts("a free street", Check.told(THREE, "price 3 0"), 4, 1, 9);
        dueCarts("both dear", Check.told(THREE, "price 0 99;price 1 99"), 2, 99, 1);
        dueCarts("a tie is not enough", Check.told(THREE, "cart 5"), 4, 3, 7);
        dueCarts("a tie twice", Check.told(THREE, "cart 4"), 4, 4, 15);
        dueCarts("too light", Check.told(THREE, "cart 1"), 4, NONE, NONE);
        dueCarts("on the street behind", Check.told("street 0 1 5;street 0 1 3"), 0, 1, 2);
        dueCarts("on no way", Check.told("street 0 1 5;street 0 2 1"), 1, NONE, NONE);
        x.flood(0, 1);
        dueCarts("past a shut street", x, 2, 0, 0);
        dueCarts("past a shut street", x, 4, 1, 4);
        dueCarts("behind a shut street", x, 1, NONE, NONE);
        dueCarts("a shut street", x, 0, NONE, NONE);
        due("23: no such", x.carts(5, 0), UNKNOWN);
        due("23: no such", x.carts(-1, 0), UNKNOWN);
        due("23: UNKNOWN is first", x.carts(5, 2), UNKNOWN);
        due("23: what 2", x.carts(0, 2), OUTSIDE);
        due("23: what -1", x.carts(0, -1), OUTSIDE);
        due("23: nothing is longer", x.street(2, 2), 2);
    }

    // ---- 24 to 28: nights told

    private static void night() {
        ShutWays x = Check.told(THREE);
        due("24: no such", x.night(5), UNKNOWN);
        due("24: no such", x.night(-2), UNKNOWN);
        due("25: none", x.forget(), 0);
        for (int i = 1; i <= 12; i++) {
            due("24: night", x.night(i % 6 - 1), i);
        }
        due("24: a thirteenth", x.night(0), FULL);
        due("24: a thirteenth", x.night(NONE), FULL);
        due("24: UNKNOWN is first", x.night(5), UNKNOWN);
        due("24: told", x.count(7), 12);
        due("24: nothing is shut", x.count(8), 0);
        due("25: forgotten", x.forget(), 12);
        due("25: none", x.count(7), 0);
        due("25: judged", x.judge(), NONE);
        due("24: the first again", x.night(4), 1);
    }

    private static void judge() {
        ShutWays x = Check.told(THREE, "first 2");
        due("26: no nights", x.judge(), NONE);
        for (int street : new int[] {0, 2, 4, 0, 2, 4, 0}) {
            x.night(street);
            due("26: so", x.judge(), NONE);
        }
        x.go(2);
        x.flood(0, 9);
        due("26: from day 0 on, all open", x.judge(), NONE);
        x.night(NONE);
        x.night(1);
        due("26: the first wrong one", x.judge(), 7);
        due("26: nothing changes", x.count(6), 2);
        ShutWays y = Check.told("street 0 1 5;first 2");
        y.night(0);
        y.night(NONE);
        y.night(NONE);
        y.night(0);
        due("26: nothing was shut", y.judge(), NONE);
        y.night(0);
        due("26: yet it was", y.judge(), 4);
        ShutWays turn = Check.told("street 0 1 5;street 2 3 7;also 3 2;least 3");
        turn.night(0);
        turn.night(1);
        due("26: ends in turn", turn.judge(), NONE);
        turn.forget();
        turn.night(1);
        due("26: even ends first", turn.judge(), 0);
    }

    private static void dueFits(ShutWays x, int street, int count, int least, int greatest) {
        due("27: how many of " + street, x.fits(street, 0), count);
        due("27: the least of " + street, x.fits(street, 1), least);
        due("27: the greatest of " + street, x.fits(street, 2), greatest);
    }

    private static void fits() {
        ShutWays x = Check.told(THREE, "first 2");
        dueFits(x, 0, 99, 1, 99);
        x.night(0);
        dueFits(x, 0, 3, 1, 3);
        dueFits(x, 1, 3, 1, 3);
        dueFits(x, 2, 99, 1, 99);
        dueFits(x, 4, 96, 4, 99);
        x.flood(1, 99);
        x.go(1);
        dueFits(x, 0, 3, 1, 3);
        due("27: nothing is longer", x.street(0, 2), 2);
        due("27: no such", x.fits(5, 0), UNKNOWN);
        due("27: no such", x.fits(-1, 0), UNKNOWN);
        due("27: UNKNOWN is first", x.fits(5, 3), UNKNOWN);
        due("27: what 3", x.fits(0, 3), OUTSIDE);
        due("27: what -1", x.fits(0, -1), OUTSIDE);
        x.forget();
        x.night(NONE);
        dueFits(x, 0, 0, NONE, NONE);
        ShutWays longest = Check.told(THREE, "longest 1");
        longest.night(1);
        dueFits(longest, 0, 1, 1, 1);
        dueFits(longest, 1, 1, 3, 3);
    }

    private static void count() {
        ShutWays x = Check.told("town 7;street 0 6 5;street 6 1 5", "ends 6 0;also 1 6;least 4;cart 33;lane 0 1 2 3");
        dueCounts("28: told", x, 7, 2, 1, 3, 4, 33, 0, 0, 0, 6, 0, 0);
        x.go(3);
        x.night(1);
        Check.write(x, "town");
        dueCounts("28: on", x, 7, 2, 1, 3, 4, 33, 3, 1, 3, 1, 6, 4);
        for (int what : new int[] {-1, 12, Integer.MIN_VALUE, Integer.MAX_VALUE}) {
            due("28: count(" + what + ")", x.count(what), OUTSIDE);
        }
    }

    /** No call throws, whatever its numbers are. */
    private static void anyNumbers() {
        int[] numbers = {Integer.MIN_VALUE, -100, -2, -1, 0, 1, 5, 11, 12, 15, 16, 31, 32, 100, 10000, Integer.MAX_VALUE};
        for (int one : numbers) {
            ShutWays x = Check.told(THREE, "lane 0 1 5 5;also 2 3");
            for (int other : numbers) {
                x.write(one * 31L + other, one);
                x.fault();
                x.town();
                int sum = x.street(one, other) + x.lane(one, other) + x.as(one) + x.way(one) + x.flood(one, other)
                        + x.keep(one) + x.back(other) + x.later(one) + x.never() + x.apart() + x.round(one)
                        + x.passed(one, other) + x.most(one) + x.build(one, other, 0) + x.chosen(one, other)
                        + x.carts(one, other) + x.night(one) + x.judge() + x.fits(one, other) + x.count(one) + x.go(one);
                check.holds("an answer", sum > Integer.MIN_VALUE);
            }
        }
    }
}
