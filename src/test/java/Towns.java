/** Towns that several tests tell. */
final class Towns {
    /** Ways 0 1 (4 yards), 2 3 (5 yards), 4 (9 yards), of which no two have a street together. */
    static final String THREE = "street 0 2 2;street 2 1 2;street 0 3 2;street 3 1 3;street 0 1 9";
    /** One way, 2 0 3 1: its first is 2, its last 1, its longest 3, its least 0. */
    static final String CHAIN = "town 5;street 2 3 4;street 4 1 5;street 0 2 6;street 3 4 7";
    /** One way by all eight corners, seven streets of 99 yards: no way can be longer. */
    static final String LONG = "town 8;street 0 2 99;street 2 3 99;street 3 4 99;street 4 5 99;street 5 6 99;"
            + "street 6 7 99;street 7 1 99";
    /** Twelve streets, all that there may be, from corner 0 to corner 1, of one yard each. */
    static final String FULL = "street 0 1 1" + ";street 0 1 1".repeat(11);

    private Towns() {
    }

    /** A town in which the first day without a way is day 400. */
    static ShutWays longWithWay() {
        return Check.told("town 3;street 0 2 9;street 1 2 1;street 0 1 27;street 2 1 1;street 0 1 2;street 1 2 9;"
                + "street 1 0 4;street 0 1 24;street 1 0 8;street 2 1 5;street 1 0 1",
                "street 1 2 11;ends 2 0;also 0 2;least 7");
    }

    /** A town in which all comes round behind 3 days, 998 days later. */
    static ShutWays longNotRound() {
        return Check.told("town 3;street 0 1 52;street 2 1 11;street 2 0 12;street 1 2 7;street 1 2 11;street 2 1 62;"
                + "street 2 1 4;street 1 2 1;street 1 0 4;street 0 2 9;street 1 2 77", "ends 0 2;also 2 0;least 8");
    }

    /** A town with something of everything: lanes, ends in turn, days gone, floods, both kept, nights told, a text. */
    static ShutWays busy() {
        ShutWays x = Check.told("town 6;" + THREE + ";price 3 42", "also 2 3;last 2;lane 0 1 5 6;lane 4 5 7 0;cart 7");
        x.go(3);
        x.flood(4, 50);
        x.keep(0);
        x.go(1);
        x.flood(0, 20);
        x.keep(1);
        x.go(2);
        x.night(1);
        x.night(2);
        x.night(4);
        Check.write(x, "ends 2 1;cart 9");
        return x;
    }

    static ShutWays busyWithFullText() {
        return busyWithText(200);
    }

    /** Its text is that of the busy town, with blanks behind it. */
    static ShutWays busyWithText(int bytes) {
        ShutWays x = busy();
        Check.write(x, " ".repeat(bytes - x.count(11)));
        return x;
    }

    static ShutWays busyWithFullNights() {
        ShutWays x = busy();
        for (int night = x.count(7); night < 12; night++) {
            x.night(night % 5);
        }
        return x;
    }

    /** So many nights have gone, more than 6. */
    static ShutWays busyFor(int days) {
        ShutWays x = busy();
        for (int gone = x.count(6); gone < days; gone = x.count(6)) {
            x.go(Math.min(999, days - gone));
        }
        return x;
    }
}
