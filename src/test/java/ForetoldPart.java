import java.util.function.Supplier;

/** What is foretold, and nights told. */
final class ForetoldPart extends Part {
    ForetoldPart(Sentences say) {
        super(say);
    }

    void all() {
        say.says("FORETOLD from TODAY (nothing changes).", this::nothingChanges);
        say.says("In t DAYS (0 .. 99): YARDS of THE WAY.", this::inDays);
        say.says("NEVER: the first of the next 400 DAYS (TODAY is 0) without a WAY; none.", this::never);
        say.says("APART: the most WAYS from MARKET to QUAY of TODAY of which no two have a STREET (of all, open or not)"
                + " together.", this::apart);
        say.says("ROUND: the fewest DAYS behind which all (what is shut for how long, whose ENDS it is) is as it is some DAYS"
                + " later: how many DAYS ahead of that, how many later first", this::round);
        say.says("none: not in 1000 DAYS both together.", this::roundIn1000Days);
        say.says("PASSED in T DAYS (1 .. 99): how often THE WAY has a STREET", this::passed);
        say.says("MOST PASSED: the STREET that it has most often; of several the least.", this::most);
        say.says("LANES by which THE WAY of T DAYS (1 .. 60) is there", this::daysOfLanes);
        say.says("and not longer than f YARDS (1 .. 999) on each DAY", this::notLonger);
        say.says("if they are STREETS from TODAY on (behind all others, by their numbers)", this::lanesBehindStreets);
        say.says("the cheapest set; of several the least; none. CHOSEN", this::cheapestLanes);
        say.says("if, in each of the next m nights (1 .. 5), any STREET of THE WAY may be shut", this::chosenNights);
        say.says("the least, the greatest sum of YARDS of THE WAYS of TODAY and of the m DAYS behind that (one without a WAY"
                + " counts 999)", this::chosenSums);
        say.says("CARTS: sets of STREETS, each of which is longer by a CART TODAY, by which THE WAY has a told STREET: the"
                + " least PRICE of all together", this::carts);
        say.says("; the least of such sets; none. (For TODAY alone; one CART each.)", this::leastCarts);
        say.says("NIGHTS, 12 at most: STREETS that were shut, one after another (or nothing), from DAY 0 on, all open.",
                this::twelveNights);
        say.says("JUDGED: the first that would not be shut so", this::judged);
        say.says("FIT: YARDS (1 .. 99) of one STREET, the others as they are, by which none is wrong: how many, the least, the"
                + " greatest.", this::fit);
    }

    private void nothingChanges() {
        Supplier<ShutWays> busy = Towns::busy;
        dueUnchanged("later(0)", busy, x -> x.later(0), 5);
        dueUnchanged("later(99)", busy, x -> x.later(99), 4);
        dueUnchanged("never()", busy, ShutWays::never, 1);
        dueUnchanged("apart()", busy, ShutWays::apart, 3);
        dueUnchanged("round(0)", busy, x -> x.round(0), 45);
        dueUnchanged("round(1)", busy, x -> x.round(1), 4);
        dueUnchanged("passed(2, 99)", busy, x -> x.passed(2, 99), 23);
        dueUnchanged("most(99)", busy, x -> x.most(99), 1);
        dueUnchanged("build(1, 999, 1)", busy, x -> x.build(1, 999, 1), 0);
        dueUnchanged("build(60, 999, 1)", busy, x -> x.build(60, 999, 1), NONE);
        dueUnchanged("build(2, 999, 1)", busy, x -> x.build(2, 999, 1), 1);
        dueUnchanged("chosen(5, 0)", busy, x -> x.chosen(5, 0), 2018);
        dueUnchanged("chosen(5, 1)", busy, x -> x.chosen(5, 1), 4006);
        dueUnchanged("carts(2, 1)", busy, x -> x.carts(2, 1), 0);
        dueUnchanged("carts(1, 0)", busy, x -> x.carts(1, 0), NONE);
        dueUnchanged("judge()", busy, ShutWays::judge, NONE);
        dueUnchanged("fits(3, 0)", busy, x -> x.fits(3, 0), 98);
    }

    private void inDays() {
        ShutWays three = Check.told(Towns.THREE, "first 2");
        int[] yards = {4, 5, 9};
        for (int t : new int[] {0, 1, 2, 97, 98, 99}) {
            due("in " + t, three.later(t), yards[t % 3]);
        }
        ShutWays flooded = Check.told("street 0 1 7");
        flooded.flood(0, 99);
        due("the last day of a flood", flooded.later(98), NONE);
        due("behind it", flooded.later(99), 7);
        flooded.go(99);
        due("today", flooded.later(0), 7);
        ShutWays late = Towns.busyFor(9999);
        due("the last day that can go", late.later(0), late.way(0));
        due("past it", late.later(99) > 0 ? 1 : 0, 1);
    }

    private void never() {
        due("today", new ShutWays().never(), 0);
        due("tomorrow", Check.told("street 0 1 7").never(), 1);
        due("none", Check.told("street 0 1 7;street 0 1 7;first 1").never(), NONE);
        due("in two days", Check.told("street 0 1 7;street 0 1 7;first 2").never(), 2);
        ShutWays late = Towns.longWithWay();
        due("day 400 is none of them", late.never(), NONE);
        late.go(1);
        due("day 399", late.never(), 399);
        late.go(1);
        due("day 398", late.never(), 398);
        late.go(398);
        due("the day itself", late.never(), 0);
    }

    private void apart() {
        due("no street", new ShutWays().apart(), 0);
        due("not to the quay", Check.told("street 0 2 1;street 3 1 1").apart(), 0);
        due("one street", Check.told("town 2;street 0 1 1").apart(), 1);
        due("seven streets, one way", Check.told(Towns.LONG).apart(), 1);
        due("twelve", Check.told(Towns.FULL).apart(), 12);
        due("six by two", Check.told("town 8;street 0 2 1;street 0 3 1;street 0 4 1;street 0 5 1;street 0 6 1;street 0 7 1",
                "street 1 2 1;street 1 3 1;street 1 4 1;street 1 5 1;street 1 6 1;street 1 7 1").apart(), 6);
        due("by a corner together", Check.told("street 0 2 1;street 0 2 1;street 2 1 1;street 2 1 1").apart(), 2);
        due("not by the shortest way", Check.told(
                "town 6;street 0 2 1;street 2 3 1;street 3 1 1;street 0 3 9;street 2 1 9").apart(), 2);
        ShutWays x = Check.told(Towns.THREE);
        for (int street = 0; street < 5; street++) {
            x.flood(street, 9);
        }
        due("open or not", x.apart(), 3);
        ShutWays turns = Check.told("street 0 1 1;street 0 1 1;street 2 3 1;also 2 3");
        due("of an even day", turns.apart(), 2);
        turns.go(1);
        due("of an odd day", turns.apart(), 1);
    }

    private void dueRound(String when, ShutWays x, int ahead, int later) {
        due(when + ", ahead", x.round(0), ahead);
        due(when + ", later", x.round(1), later);
    }

    private void round() {
        dueRound("nothing ever shut", new ShutWays(), 0, 1);
        dueRound("ends in turn", Check.told("also 2 3"), 0, 2);
        dueRound("shut for a day", Check.told("street 0 1 7;first 1"), 0, 2);
        dueRound("shut for nine days", Check.told("street 0 1 7;first 9"), 0, 10);
        dueRound("shut for two days, ends in turn", Check.told("street 0 1 7;also 2 3"), 0, 4);
        dueRound("two streets, one day", Check.told("street 0 1 7;street 0 1 7;first 1"), 1, 2);
        for (int street = 0; street < 12; street++) {
            ShutWays x = Check.told("street 2 3 7" + ";street 2 3 7".repeat(11));
            x.flood(street, 99);
            dueRound("a flood of street " + street, x, 99, 1);
            x.go(98);
            dueRound("its last day", x, 1, 1);
            x.go(1);
            dueRound("behind it", x, 0, 1);
            ShutWays turns = Check.told("street 0 2 7" + ";street 0 2 7".repeat(10), "street 0 2 7;also 2 3");
            turns.flood(street, 99);
            dueRound("a flood of street " + street + ", ends in turn", turns, 99, 2);
        }
        for (int street = 0; street < 11; street++) {
            dueRoundOfNeighbours(street);
        }
    }

    /** One street is shut on each other day, its neighbour by a long flood: no two days of the flood are alike. */
    private void dueRoundOfNeighbours(int street) {
        String other = "street 2 3 1;";
        ShutWays x = Check.told(other.repeat(street) + "street 0 1 1;" + other.repeat(10 - street) + "first 1", "street 2 3 1");
        x.go(1);
        x.flood(street + 1, 99);
        dueRound("streets " + street + " and the next, the first shut", x, 99, 2);
        x.go(1);
        x.flood(street + 1, 99);
        dueRound("streets " + street + " and the next, the first open", x, 99, 2);
    }

    private void roundIn1000Days() {
        ShutWays x = Towns.longNotRound();
        dueRound("3 and 998", x, NONE, NONE);
        x.go(1);
        dueRound("2 and 998", x, 2, 998);
        x.go(1);
        dueRound("1 and 998", x, 1, 998);
        x.go(1);
        dueRound("0 and 998", x, 0, 998);
    }

    private void passed() {
        ShutWays x = Check.told("street 0 2 1;street 0 2 1;street 2 1 1;street 3 1 1;first 1");
        due("each of 99 days", x.passed(2, 99), 99);
        due("today", x.passed(2, 1), 1);
        due("never", x.passed(3, 99), 0);
        due("each other day", x.passed(0, 99), 50);
        due("the others", x.passed(1, 99), 49);
        due("not yet", x.passed(1, 1), 0);
        ShutWays flooded = Check.told("street 0 1 7");
        flooded.flood(0, 98);
        due("in 98 days", flooded.passed(0, 98), 0);
        due("in 99 days", flooded.passed(0, 99), 1);
    }

    private void most() {
        due("no street", new ShutWays().most(99), NONE);
        due("none is passed", Check.told("street 0 2 1").most(99), NONE);
        ShutWays x = Check.told("street 0 1 5;street 0 1 5;first 1");
        due("today", x.most(1), 0);
        x.go(1);
        due("the second, today", x.most(1), 1);
        due("each once", x.most(2), 0);
        due("the second twice", x.most(3), 1);
        due("the second once more of 99", x.most(99), 1);
        due("each as often of 98", x.most(98), 0);
        due("all of a way", Check.told("street 2 1 1;street 0 2 1").most(1), 0);
        due("the last", Check.told("street 0 2 1" + ";street 0 2 1".repeat(10) + ";street 0 1 1").most(99), 11);
        ShutWays flooded = Check.told("street 0 1 7");
        flooded.flood(0, 98);
        due("in 98 days", flooded.most(98), NONE);
        due("in 99 days", flooded.most(99), 0);
    }

    private void dueBuilt(String when, ShutWays x, int days, int far, int cost, int set) {
        due(when + ", cost", x.build(days, far, 0), cost);
        due(when + ", set", x.build(days, far, 1), set);
    }

    private void daysOfLanes() {
        ShutWays late = Towns.longWithWay();
        late.go(340);
        due("the first day without a way", late.never(), 60);
        dueBuilt("60 days, the last is 59", late, 60, 999, 0, 0);
        late.go(1);
        dueBuilt("60 days, none on the last", late, 60, 999, NONE, NONE);
        dueBuilt("59 days", late, 59, 999, 0, 0);
        ShutWays x = Check.told("street 0 1 5;lane 0 1 5 9");
        dueBuilt("today", x, 1, 5, 0, 0);
        dueBuilt("two days", x, 2, 5, 9, 1);
        dueBuilt("three days", x, 3, 5, NONE, NONE);
        x.flood(0, 1);
        dueBuilt("today, shut", x, 1, 5, 9, 1);
    }

    private void notLonger() {
        dueBuilt("1 yard", Check.told("street 0 1 1"), 1, 1, 0, 0);
        dueBuilt("2 yards", Check.told("street 0 1 2"), 1, 1, NONE, NONE);
        ShutWays longest = Check.told(Towns.LONG, "lane 0 1 99 5");
        dueBuilt("as long", longest, 1, 693, 0, 0);
        dueBuilt("longer by a yard", longest, 1, 692, 5, 1);
        dueBuilt("999", longest, 1, 999, 0, 0);
        dueBuilt("a lane as long", longest, 1, 99, 5, 1);
        dueBuilt("a lane longer by a yard", longest, 1, 98, NONE, NONE);
        ShutWays x = Check.told("street 0 1 3;street 0 1 9;lane 0 1 8 5;first 1");
        dueBuilt("on each day", x, 60, 9, 0, 0);
        dueBuilt("the second day is too long", x, 2, 8, 5, 1);
        dueBuilt("the first is not", x, 1, 8, 0, 0);
    }

    /** By street 0 and street 1, or by the lane, it is as far to the quay; the next day street 0 is wanted. */
    private void lanesBehindStreets() {
        ShutWays behind = Check.told("street 0 2 1;street 2 1 2;lane 0 1 3 7;also 0 2");
        dueBuilt("street 0 is shut", behind, 2, 4, NONE, NONE);
        dueBuilt("round by the lane", behind, 2, 5, 7, 1);
        ShutWays first = Check.told("street 2 1 2;lane 0 2 1 6;lane 0 1 3 7;also 0 2");
        dueBuilt("lane 0 is shut", first, 2, 4, NONE, NONE);
        dueBuilt("round by lane 1", first, 2, 5, 13, 3);
        ShutWays second = Check.told("street 2 1 2;lane 0 1 3 7;lane 0 2 1 6;also 0 2");
        dueBuilt("lane 0, told the other way, is shut", second, 2, 4, 13, 3);
        ShutWays full = Check.told("street 2 3 1" + ";street 2 3 1".repeat(11), "lane 0 1 1 1;lane 0 1 1 2;lane 0 1 1 3;lane 0 1 1 4");
        dueBuilt("twelve streets, four lanes", full, 1, 1, 1, 1);
        dueBuilt("three of four", full, 60, 1, 6, 7);
        ShutWays least = Check.told("street 2 1 1;lane 0 2 9 1;lane 0 2 9 1;least 1");
        dueBuilt("the least is the street", least, 2, 99, NONE, NONE);
    }

    private void cheapestLanes() {
        dueBuilt("none wanted", Check.told("street 0 1 1;lane 0 1 1 0"), 1, 9, 0, 0);
        dueBuilt("for nothing", Check.told("lane 0 1 1 0"), 1, 9, 0, 1);
        dueBuilt("no lanes", new ShutWays(), 1, 999, NONE, NONE);
        dueBuilt("not to the quay", Check.told("lane 0 2 1 0"), 1, 999, NONE, NONE);
        dueBuilt("the cheapest, not the least", Check.told("lane 0 1 1 2;lane 0 1 1 1"), 1, 9, 1, 2);
        dueBuilt("of two the least", Check.told("lane 0 1 1 2;lane 0 1 1 2"), 1, 9, 2, 1);
        dueBuilt("of two sets the least", Check.told("lane 0 2 1 1;lane 2 1 1 1;lane 0 1 1 2"), 1, 9, 2, 3);
        dueBuilt("of two sets the least, by its number", Check.told("lane 0 1 1 2;lane 0 2 1 1;lane 2 1 1 1"), 1, 9, 2, 1);
        dueBuilt("without a lane for nothing", Check.told("lane 2 3 1 0;lane 0 1 1 5"), 1, 9, 5, 2);
        ShutWays four = Check.told("lane 0 1 1 99;lane 0 1 1 99;lane 0 1 1 99;lane 0 1 1 99;first 3");
        dueBuilt("all four, the dearest", four, 60, 1, 396, 15);
        dueBuilt("four are not enough", Check.told("lane 0 1 1 9;lane 0 1 1 9;lane 0 1 1 9;lane 0 1 1 9;first 4"), 5, 1, NONE, NONE);
    }

    private void dueChosen(String when, ShutWays x, int nights, int least, int greatest) {
        due(when + ", least", x.chosen(nights, 0), least);
        due(when + ", greatest", x.chosen(nights, 1), greatest);
    }

    private void chosenNights() {
        ShutWays one = Check.told("street 0 1 5;first 1");
        for (int nights = 1; nights <= 5; nights++) {
            int open = nights / 2 + 1;
            int sum = 5 * open + 999 * (nights + 1 - open);
            dueChosen(nights + " nights", one, nights, sum, sum);
        }
        // By street 2 the way of today may stay, but for the yards, if street 0 is shut, not if street 1 is.
        ShutWays x = Check.told("street 0 2 1;street 2 1 1;street 0 2 2;first 1");
        dueChosen("any street", x, 1, 2 + 3, 2 + 999);
        dueChosen("whatever the council is", Check.told("street 0 2 1;street 2 1 1;street 0 2 2;last 1"), 1, 2 + 3, 2 + 999);
        ShutWays seven = Check.told(Towns.LONG, "first 9");
        dueChosen("any of seven", seven, 1, 693 + 999, 693 + 999);
    }

    private void chosenSums() {
        dueChosen("none, one night", new ShutWays(), 1, 1998, 1998);
        dueChosen("none, five nights", new ShutWays(), 5, 5994, 5994);
        dueChosen("one street", Check.told("street 0 1 99;first 9"), 5, 99 + 5 * 999, 99 + 5 * 999);
        ShutWays shut = Check.told("street 0 1 1;first 9");
        shut.flood(0, 5);
        dueChosen("open on the last day", shut, 5, 5 * 999 + 1, 5 * 999 + 1);
        shut.flood(0, 6);
        dueChosen("not open on the last day", shut, 5, 6 * 999, 6 * 999);
        dueChosen("twelve streets", Check.told(Towns.FULL), 5, 6, 6);
        ShutWays turns = Check.told("street 0 1 5;street 2 3 7;also 2 3;first 1");
        dueChosen("ends in turn", turns, 2, 17, 17);
    }

    private void dueCarts(String when, ShutWays x, int street, int price, int set) {
        due(when + ", price", x.carts(street, 0), price);
        due(when + ", set", x.carts(street, 1), set);
    }

    private void carts() {
        ShutWays full = Check.told(Towns.FULL);
        for (int street = 0; street < 12; street++) {
            dueCarts("of twelve, street " + street, full, street, street, (1 << street) - 1);
        }
        StringBuilder prices = new StringBuilder("price 0 99");
        for (int street = 1; street < 12; street++) {
            prices.append(";price ").append(street).append(" 99");
        }
        dueCarts("the dearest", Check.told(Towns.FULL, prices.toString()), 11, 1089, 2047);
        ShutWays free = Check.told("street 0 1 1;street 0 1 2;price 0 0");
        dueCarts("for nothing", free, 1, 0, 1);
        dueCarts("the cheapest, not the least", Check.told("street 0 2 1;street 2 1 1;street 0 1 9;price 0 2"), 2, 1, 2);
    }

    private void leastCarts() {
        dueCarts("no cart", Check.told("street 0 1 1;price 0 0"), 0, 0, 0);
        dueCarts("of two the least", Check.told("street 0 2 1;street 2 1 1;street 0 1 9"), 2, 1, 1);
        dueCarts("of two sets the least", Check.told(
                "street 0 1 9;street 0 2 1;street 0 2 1;street 2 1 1;price 3 2"), 0, 2, 6);
        dueCarts("without one for nothing", Check.told("street 2 3 1;street 0 1 1;street 0 1 2;price 0 0;price 2 0"), 2, 1, 2);
        dueCarts("on no way", Check.told("street 0 1 1;street 2 3 1"), 1, NONE, NONE);
        dueCarts("one cart each", Check.told("street 0 1 1;street 0 1 12"), 1, NONE, NONE);
        ShutWays shut = Check.told("street 0 1 1;street 0 1 2;street 0 1 3");
        shut.flood(0, 1);
        dueCarts("a shut street", shut, 0, NONE, NONE);
        dueCarts("past a shut street", shut, 1, 0, 0);
        dueCarts("past a shut street, a cart", shut, 2, 1, 2);
        ShutWays turns = Check.told("street 0 1 1;street 2 3 1;also 2 3");
        dueCarts("today", turns, 0, 0, 0);
        dueCarts("not tomorrow", turns, 1, NONE, NONE);
        turns.go(1);
        dueCarts("the next day", turns, 1, 0, 0);
    }

    private void twelveNights() {
        ShutWays x = Check.told(Towns.FULL);
        due("none told", x.count(7), 0);
        for (int night = 1; night <= 12; night++) {
            due("a night", x.night(night % 2 == 0 ? NONE : 12 - night), night);
            due("nights", x.count(7), night);
        }
        due("a thirteenth", x.night(0), FULL);
        due("a thirteenth, nothing", x.night(NONE), FULL);
        due("nights", x.count(7), 12);
        ShutWays y = Check.told("street 0 1 5;first 1");
        for (int night = 0; night < 12; night++) {
            y.night(night % 2 == 0 ? 0 : NONE);
        }
        due("one after another, or nothing", y.judge(), NONE);
        y.flood(0, 9);
        y.go(3);
        due("from day 0 on, all open", y.judge(), NONE);
    }

    private void judged() {
        due("none told", Check.told("street 0 1 5").judge(), NONE);
        for (int wrong = 0; wrong < 12; wrong++) {
            ShutWays x = Check.told("street 0 1 5;first 1");
            for (int night = 0; night < 12; night++) {
                x.night(night % 2 == 0 ^ night >= wrong ? 0 : NONE);
            }
            due("the first wrong one", x.judge(), wrong);
        }
        ShutWays last = Check.told("street 0 1 5;street 0 1 5;first 1");
        for (int night = 0; night < 12; night++) {
            last.night(night % 2);
            due("so far all are so", last.judge(), NONE);
        }
        ShutWays turns = Check.told("street 0 1 5;street 2 3 5;also 2 3;first 1");
        turns.go(1);
        turns.night(0);
        turns.night(1);
        due("day 0 is even", turns.judge(), NONE);
    }

    private void dueFit(String when, ShutWays x, int street, int count, int least, int greatest) {
        due(when + ", how many", x.fits(street, 0), count);
        due(when + ", least", x.fits(street, 1), least);
        due(when + ", greatest", x.fits(street, 2), greatest);
    }

    private ShutWays withNight(int night, int otherYards) {
        ShutWays x = Check.told("street 0 1 5;street 0 1 " + otherYards);
        x.night(night);
        return x;
    }

    private void fit() {
        dueFit("no nights", Check.told("street 0 1 5"), 0, 99, 1, 99);
        dueFit("all", withNight(0, 99), 0, 99, 1, 99);
        dueFit("all but one", withNight(0, 98), 0, 98, 1, 98);
        dueFit("one, the least", withNight(0, 1), 0, 1, 1, 1);
        dueFit("one, the greatest", withNight(1, 98), 0, 1, 99, 99);
        dueFit("none", withNight(1, 99), 0, 0, NONE, NONE);
        dueFit("all above 1", withNight(1, 1), 0, 98, 2, 99);
        dueFit("the other one", withNight(0, 50), 1, 95, 5, 99);
        dueFit("the other one, shorter", withNight(1, 50), 1, 4, 1, 4);
        dueFit("nothing was shut", withNight(NONE, 50), 0, 0, NONE, NONE);
        ShutWays x = Check.told("street 0 1 5;street 0 1 6;street 0 1 7");
        x.night(0);
        x.night(1);
        x.night(2);
        dueFit("between two", x, 1, 3, 5, 7);
        due("its yards stay", x.street(1, 2), 6);
        ShutWays longest = Check.told("street 0 2 50;street 2 1 9;longest 9");
        longest.night(1);
        dueFit("two bounds apart", longest, 1, 49, 51, 99);
        longest.forget();
        longest.night(0);
        dueFit("of several longest the least", longest, 1, 50, 1, 50);
    }
}
