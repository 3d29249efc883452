/** Days and nights: the way, what councils shut, floods and fairs. */
final class DaysPart extends Part {
    private static final String[] KINDS = {"first", "last", "longest", "least"};

    DaysPart(Sentences say) {
        super(say);
    }

    void all() {
        say.says("An object is used for at most 512 calls after it has been made; what later calls answer is free.",
                this::lastOf512Calls);
        say.says("THE WAY of DAY t goes from MARKET to QUAY of that DAY by open STREETS: the shortest", this::shortest);
        say.says("of several the first (that which has the lesser STREET where, from MARKET on, they are first unlike)",
                this::firstOfSeveral);
        say.says("none: there is no WAY.", this::noWay);
        say.says("In THE NIGHT behind it THE COUNCIL shuts a STREET of THE WAY (none: nothing)", this::oneOfTheWayOrNothing);
        say.says("FIRST the first from MARKET on, LAST the last, LONGEST the longest (of several the least), LEAST the least"
                + " number", this::whatCouncilsShut);
        say.says("it is shut on the next k DAYS. Then the next DAY comes.", this::nextDays);
        say.says("KINDS are over one another: COUNCIL (0); FIRST (1) under it; LAST (2) is FIRST; LONGEST (3) is a COUNCIL;"
                + " LEAST (4) is LONGEST.", this::kindsOverKinds);
        say.says("A FLOOD shuts a STREET at once, for so many DAYS, TODAY too", this::floods);
        say.says("(one that is shut for longer stays so)", this::shutForLonger);
        say.says("A FAIR opens all.", this::fairs);
    }

    private void lastOf512Calls() {
        ShutWays x = new ShutWays();
        for (int call = 1; call <= 127; call++) {
            x.write(0x3120_7472_6163L + (call % 9L << 40), 6);
            x.town();
            x.keep(0);
            x.go(1);
        }
        due("call 509", x.write(0x3520_7472_6163L, 6), 6);
        due("call 510", x.town(), 1);
        due("call 511", x.go(999), 999);
        due("call 512", x.count(5), 5);
        for (int call = 513; call <= 2000; call++) {
            say.holds("call " + call + " has some answer", x.go(call) >= FULL);
        }
    }

    private void shortest() {
        ShutWays x = Check.told(Towns.THREE);
        dueWay("all open", x, 4, 0, 1);
        x.flood(1, 1);
        dueWay("one shut", x, 5, 2, 3);
        x.flood(2, 1);
        dueWay("two shut", x, 9, 4);
        dueWay("by one yard", Check.told("street 0 1 99;street 0 2 49;street 2 1 49"), 98, 1, 2);
        dueWay("by one corner at least", Check.told("town 2;street 1 0 1"), 1, 0);
        dueWay("by all corners", Check.told(Towns.LONG), 693, 0, 1, 2, 3, 4, 5, 6);
        ShutWays turns = Check.told(Towns.THREE, "also 3 2");
        turns.go(1);
        dueWay("of an odd day", turns, 5, 3, 1);
    }

    private void firstOfSeveral() {
        dueWay("two alike", Check.told("street 0 1 5;street 0 1 5"), 5, 0);
        dueWay("the lesser first, with more streets", Check.told("town 5;street 0 2 1;street 0 1 3;street 2 3 1;street 3 1 1"),
                3, 0, 2, 3);
        dueWay("the lesser first, with fewer streets", Check.told("street 0 1 3;street 0 2 1;street 2 3 1;street 3 1 1"), 3, 0);
        dueWay("the least is behind", Check.told("street 2 1 1;street 0 3 1;street 0 2 1;street 3 1 1"), 2, 1, 3);
        dueWay("and back", Check.told("street 2 1 1;street 0 3 1;street 0 2 1;street 3 1 1", "ends 1 0"), 2, 0, 2);
        dueWay("unlike behind the first", Check.told("street 0 2 1;street 2 1 2;street 2 3 1;street 3 1 1"), 3, 0, 1);
        dueWay("unlike at the last", Check.told("street 0 2 1;street 2 3 1;street 3 1 2;street 3 1 1;street 3 1 1"), 3, 0, 1, 3);
        dueWay("10 is above 9", Check.told("town 2;street 0 1 9" + ";street 0 1 9".repeat(8) + ";street 0 1 5;street 0 1 5"), 5, 9);
        dueWay("of twelve the first", Check.told(Towns.FULL), 1, 0);
    }

    private void noWay() {
        dueNoWay("no street", new ShutWays());
        dueNoWay("not to the quay", Check.told("street 0 2 1;street 1 3 1"));
        ShutWays x = Check.told("street 0 1 5");
        x.flood(0, 1);
        dueNoWay("all shut", x);
        due("today", x.later(0), NONE);
        due("nothing to shut", x.as(0), NONE);
        x.go(1);
        dueWay("open again", x, 5, 0);
    }

    private void oneOfTheWayOrNothing() {
        for (String kind : KINDS) {
            ShutWays x = Check.told(Towns.THREE, "street 2 3 1;also 3 0;" + kind + " 3");
            for (int night = 0; night < 20; night++) {
                int way = setOfWay(x);
                x.go(1);
                int shut = shutFor(3, x);
                due(kind + ", night " + night + ", so many", Integer.bitCount(shut), way == 0 ? 0 : 1);
                due(kind + ", night " + night + ", not of the way", shut & ~way, 0);
            }
        }
        nothingToShut();
    }

    private static int setOfWay(ShutWays x) {
        int set = 0;
        int streets = x.way(1);
        for (int i = 0; i < streets; i++) {
            set |= 1 << x.way(10 + i);
        }
        return set;
    }

    private static int shutFor(int days, ShutWays x) {
        int set = 0;
        int streets = x.count(1);
        for (int street = 0; street < streets; street++) {
            set |= x.street(street, 4) == days ? 1 << street : 0;
        }
        return set;
    }

    private void nothingToShut() {
        for (String kind : KINDS) {
            ShutWays x = Check.told("street 0 2 5;street 1 3 5", kind + " 9");
            due(kind, x.as(0), NONE);
            due("a night goes", x.go(1), 1);
            due("nothing is shut", x.count(8), 0);
            x.flood(0, 3);
            x.go(2);
            due("a flood goes on", x.street(0, 4), 1);
            due("nothing else is shut", x.count(8), 1);
        }
    }

    private void whatCouncilsShut() {
        int[] ofChain = {2, 1, 3, 0};
        int[] ofAlike = {2, 1, 0, 0};
        for (int kind = 0; kind < 4; kind++) {
            dueShut(KINDS[kind] + " of a chain", ofChain[kind], Towns.CHAIN, KINDS[kind] + " 1");
            dueShut(KINDS[kind] + " of one", 0, "street 0 1 5", KINDS[kind] + " 1");
            // Two streets are longest, the lesser of them behind the other; none of them is first or last.
            dueShut(KINDS[kind] + " of several", ofAlike[kind], "town 5;street 4 3 7;street 3 1 1;street 0 2 1;street 2 4 7",
                    KINDS[kind] + " 1");
        }
        dueShut("of several longest the least, though last", 0, "street 2 1 7;street 0 2 7;longest 1");
        dueShut("of several longest the least, though first", 0, "street 0 2 7;street 2 1 7;longest 1");
        dueShut("longer by a yard", 1, "street 0 2 98;street 2 1 99;longest 1");
        dueShut("from the market on", 1, "street 0 2 1;street 2 1 1;ends 1 0");
        dueShut("the last from the market on", 0, "street 0 2 1;street 2 1 1;ends 1 0;last 1");
        dueShut("the last of seven", 6, Towns.LONG, "last 1");
    }

    private void dueShut(String when, int street, String... texts) {
        ShutWays x = Check.told(texts);
        due(when + ", foretold", x.as(0), street);
        x.go(1);
        due(when, x.count(8), 1 << street);
    }

    private void nextDays() {
        for (int k = 1; k <= 9; k++) {
            ShutWays x = Check.told("street 0 1 5;street 0 1 6;first " + k);
            x.flood(1, 99);
            dueWay("k " + k + ", the day itself", x, 5, 0);
            due("the next day", x.go(1), 1);
            for (int day = 1; day <= k; day++) {
                dueNoWay("k " + k + ", day " + day, x);
                due("shut for yet", x.street(0, 4), k + 1 - day);
                due("the next day", x.go(1), day + 1);
            }
            dueWay("k " + k + ", behind them", x, 5, 0);
        }
    }

    private void kindsOverKinds() {
        int[][] due = {{2, 2, NOT, NOT, NOT}, {1, 1, 1, NOT, NOT}, {3, NOT, NOT, 3, NOT}, {0, NOT, NOT, 0, 0}};
        for (int kind = 0; kind < 4; kind++) {
            ShutWays x = Check.told(Towns.CHAIN, KINDS[kind] + " 1");
            ShutWays none = Check.told(KINDS[kind] + " 1");
            for (int as = 0; as <= 4; as++) {
                due(KINDS[kind] + " as " + as, x.as(as), due[kind][as]);
                due(KINDS[kind] + " without a way, as " + as, none.as(as), due[kind][as] == NOT ? NOT : NONE);
            }
        }
    }

    private void floods() {
        for (int days : new int[] {1, 2, 99}) {
            ShutWays x = Check.told("street 0 1 5;first 1");
            due("a flood", x.flood(0, days), days);
            for (int day = 0; day < days; day++) {
                due("flood of " + days + ", shut for yet", x.street(0, 4), days - day);
                due("no way", x.way(0), NONE);
                x.go(1);
            }
            due("flood of " + days + ", open behind it", x.street(0, 4), 0);
            dueWay("flood of " + days + ", behind it", x, 5, 0);
        }
    }

    private void shutForLonger() {
        ShutWays x = Check.told("street 0 1 5;first 9");
        due("a flood", x.flood(0, 50), 50);
        due("shorter by one", x.flood(0, 49), 50);
        due("alike", x.flood(0, 50), 50);
        due("longer by one", x.flood(0, 51), 51);
        due("the shortest", x.flood(0, 1), 51);
        due("the longest", x.flood(0, 99), 99);
        x.fair();
        x.go(1);
        due("shut by the council", x.flood(0, 8), 9);
        due("as long as by the council", x.flood(0, 9), 9);
        due("longer than by the council", x.flood(0, 10), 10);
    }

    private void fairs() {
        ShutWays x = Check.told(Towns.FULL);
        due("none shut", x.fair(), 0);
        for (int street = 0; street < 12; street++) {
            x.flood(street, street + 1);
        }
        due("all shut", x.count(8), 4095);
        due("of twelve", x.fair(), 12);
        due("none shut", x.count(8), 0);
        for (int street = 0; street < 12; street++) {
            due("street " + street + " is open", x.street(street, 4), 0);
        }
        x.go(1);
        due("one shut", x.fair(), 1);
        due("days stay", x.count(6), 1);
    }
}
