/** What the document says first: the whole in one sentence, clause by clause. */
final class OpeningPart extends Part {
    OpeningPart(Sentences say) {
        super(say);
    }

    void all() {
        say.says("The shortest way is shut: each night the council shuts a street of the shortest way from the market to the"
                + " quay, and people find the next shortest", this::shortestIsShut);
        say.says("; corners, streets, two pairs of ends in turn, councils of kinds, lanes that may be built, carts, told in"
                + " texts", this::toldInTexts);
        say.says(", read to their first fault", this::readToFirstFault);
        say.says("; nights one by one, floods and fairs", this::nightsFloodsAndFairs);
        say.says("; the way some days on, when there is none, how many ways share no street", this::someDaysOn);
        say.says("; where all comes round", this::comesRound);
        say.says("; lanes, cheapest, so that it is never far", this::neverFar);
        say.says("; by which street they come most", this::mostPassed);
        say.says("; a council that may choose", this::mayChoose);
        say.says("; carts by which the way is as told", this::cartsAsTold);
        say.says("; nights judged, what length of a street fits them", this::nightsJudged);
        say.says("; a town kept.", this::townKept);
    }

    /** Three ways, 4, 5 and 9 yards long; of the two lanes one is good for something. */
    private static ShutWays town() {
        return Check.told("town 5;" + Towns.THREE, "first 2;lane 0 1 3 8;lane 0 4 1 1;cart 3");
    }

    private void shortestIsShut() {
        ShutWays x = town();
        int[] yards = {4, 5, 9, 4, 5, 9};
        int[] shuts = {0, 2, 4, 0, 2, 4};
        for (int day = 0; day < yards.length; day++) {
            due("yards of day " + day, x.way(0), yards[day]);
            due("the night behind day " + day, x.as(0), shuts[day]);
            due("a night goes", x.go(1), day + 1);
            due("it is shut", x.street(shuts[day], 4), 2);
        }
    }

    private void toldInTexts() {
        ShutWays x = Check.told("town 5;" + Towns.THREE, "ends 0 3;also 3 2;last 4;lane 0 1 3 8;cart 3");
        int[] due = {5, 5, 1, 1, 4, 3};
        for (int what = 0; what < due.length; what++) {
            due("count(" + what + ")", x.count(what), due[what]);
        }
        int[][] ends = {{0, 3}, {3, 2}, {0, 3}, {3, 2}};
        for (int day = 0; day < ends.length; day++) {
            due("market of day " + day, x.count(9), ends[day][0]);
            due("quay of day " + day, x.count(10), ends[day][1]);
            x.go(1);
        }
        due("the kind above", x.as(1), x.as(2));
        due("another kind", x.as(3), NOT);
        due("the lane", x.lane(0, 3), 8);
    }

    private void readToFirstFault() {
        ShutWays x = town();
        Check.write(x, "cart 7;ends 0 5;also 9 9");
        due("the first fault", x.fault(), 14);
        due("its lines are not done", x.town(), NOT);
        due("not the first of them either", x.count(5), 3);
    }

    private void nightsFloodsAndFairs() {
        ShutWays x = town();
        due("one night", x.go(1), 1);
        due("another", x.go(1), 2);
        dueWay("two nights on", x, 9, 4);
        due("a flood", x.flood(4, 3), 3);
        dueNoWay("a flood", x);
        due("a fair", x.fair(), 3);
        dueWay("a fair", x, 4, 0, 1);
    }

    private void someDaysOn() {
        ShutWays x = town();
        due("a day on", x.later(1), 5);
        due("two days on", x.later(2), 9);
        due("there is always one", x.never(), NONE);
        x.flood(4, 3);
        due("when there is none", x.never(), 2);
        due("the way, then", x.later(2), NONE);
        due("how many share no street", x.apart(), 3);
    }

    private void comesRound() {
        ShutWays x = town();
        due("days ahead", x.round(0), 2);
        due("days later", x.round(1), 3);
    }

    private void neverFar() {
        ShutWays x = town();
        due("far enough without", x.build(3, 9, 0), 0);
        due("cost", x.build(3, 5, 0), 8);
        due("lanes", x.build(3, 5, 1), 1);
        due("too far with all", x.build(3, 4, 0), NONE);
    }

    private void mostPassed() {
        due("in four days", town().most(4), 0);
        due("how often", town().passed(0, 4), 2);
        due("another", town().passed(2, 4), 1);
    }

    private void mayChoose() {
        ShutWays x = Check.told(Towns.THREE, "street 2 3 1;first 2");
        due("the least", x.chosen(2, 0), 4 + 5 + 5);
        due("the greatest", x.chosen(2, 1), 4 + 5 + 9);
    }

    private void cartsAsTold() {
        ShutWays x = town();
        due("price, by the second way", x.carts(2, 0), 1);
        due("set, by the second way", x.carts(2, 1), 1);
        due("price, by the third way", x.carts(4, 0), 4);
        due("set, by the third way", x.carts(4, 1), 15);
    }

    private void nightsJudged() {
        ShutWays x = town();
        for (int street : new int[] {0, 2, 4}) {
            x.night(street);
        }
        due("all are so", x.judge(), NONE);
        due("how many lengths fit", x.fits(0, 0), 3);
        due("the least", x.fits(0, 1), 1);
        due("the greatest", x.fits(0, 2), 3);
        x.night(1);
        due("the first that is wrong", x.judge(), 3);
    }

    private void townKept() {
        ShutWays x = town();
        x.go(1);
        due("kept", x.keep(1), 1);
        x.go(1);
        x.fair();
        due("as it was", x.back(1), 1);
        due("its day", x.count(6), 1);
        dueWay("its way", x, 5, 2, 3);
    }
}
