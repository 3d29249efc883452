/** What is told: corners, streets, ends, councils, lanes, carts, and the text that tells them. */
final class TextsPart extends Part {
    private static final String[] KINDS = {"first", "last", "longest", "least"};
    private static final String[] PAIRS = {"street # # 9", "ends # #", "also # #", "lane # # 9 9"};
    /** All sorts of lines, right where there are 4 corners and 1 street. */
    private static final String[] LINES = {"town 4", "street 0 1 9", "price 0 9", "ends 1 0", "also 1 0", "first 1",
        "last 1", "longest 1", "least 1", "lane 0 1 9 9", "cart 9"};

    TextsPart(Sentences say) {
        super(say);
    }

    void all() {
        say.says("CORNERS are 0 .. n less 1 (n 2 ..", this::cornersBelowN);
        say.says("8; 4 at first)", this::fourCornersAtFirst);
        say.says("STREETS are 0, 1 .. as they come, 12 at most (none at first)", this::twelveStreets);
        say.says("from a CORNER to another one (and back)", this::streetsGoBack);
        say.says("so many YARDS (1 .. 99) long", this::yardsOfStreets);
        say.says("with a PRICE of a cart (0 .. 99; 1 at first)", this::prices);
        say.says("ENDS of even DAYS are two CORNERS, MARKET and QUAY (0 and 1 at first)", this::evenEnds);
        say.says("of odd DAYS others, if such are told, else the same ones", this::oddEnds);
        say.says("THE COUNCIL is of a KIND: 0 FIRST (as at first), 1 LAST, 2 LONGEST, 3 LEAST", this::kinds);
        say.says("it shuts for k nights (1 .. 9; 2 at first)", this::nightsOfCouncils);
        say.says("LANES are 0 .. 3 as they come (none at first)", this::fourLanes);
        say.says("from a CORNER to another one, YARDS, a COST (0 .. 99)", this::yardsAndCostOfLanes);
        say.says("A CART makes a STREET longer by 1 .. 99 YARDS (10 at first)", this::yardsOfCarts);
        say.says("THE TEXT is a row of bytes, 200 at most", this::twoHundredBytes);
        say.says("LINES with ; (59) between", this::signBetweenLines);
        say.says(", 12 at most; each is one of:", this::twelveLines);
        say.says("town N. street A B Y. price S P. ends A B. also A B. first K. last K. longest K. least K. lane A B Y C."
                + " cart Y.", this::noOtherLines);
        say.says("As written here, without points", this::withoutPoints);
        say.says("town: N CORNERS, all else as at first (ENDS 0 and 1)", this::townBeginsAnew);
        say.says("A, B unlike (else a FAULT at B)", this::cornersUnlike);
        say.says("CORNERS that there are behind the LINES ahead", this::cornersBehindLinesAhead);
        say.says("S a STREET likewise", this::streetsBehindLinesAhead);
        say.says("a thirteenth STREET", this::thirteenthStreet);
        say.says("a fifth LANE cannot stand there, at its word", this::fifthLane);
        say.says("small letters a .. z", this::smallLetters);
        say.says("numbers of 1 or 2 digits", this::oneOrTwoDigits);
        say.says("blanks (32) between", this::blanks);
        say.says("A FAULT is at the first TOKEN (a row of small letters, a row of digits, any other byte) that cannot stand"
                + " there", this::firstFault);
        say.says("a number out of its bounds, of more digits, also", this::numbersOutOfBounds);
        say.says("or at the end, if it comes too soon", this::endTooSoon);
        say.says("LINES are done in their order.", this::linesInOrder);
        say.says("Behind them it is DAY 0, all STREETS are open, no NIGHTS are told, nothing is kept.", this::behindLines);
    }

    private static ShutWays withStreet() {
        return Check.told("street 0 1 5");
    }

    private void cornersBelowN() {
        for (int few = 0; few <= 1; few++) {
            dueFault("town " + few, 5);
        }
        dueFault("town 2", NONE);
        due("corners of town 2", Check.told("town 2").count(0), 2);
        for (int n = 2; n <= 8; n++) {
            for (String pair : PAIRS) {
                ShutWays x = Check.told("town " + n);
                int place = pair.indexOf('#');
                dueFault(x, filled(pair, n - 1, 0), NONE);
                dueFault(x, filled(pair, 0, n - 1), NONE);
                dueFault(x, filled(pair, n, 0), place);
                dueFault(x, filled(pair, 0, n), place + 2);
            }
        }
    }

    private static String filled(String pair, int a, int b) {
        return pair.replaceFirst("#", "" + a).replaceFirst("#", "" + b);
    }

    private void fourCornersAtFirst() {
        dueFault("town 8", NONE);
        due("corners of town 8", Check.told("town 8").count(0), 8);
        dueFault("town 9", 5);
        dueFault("town 10", 5);
        due("corners at first", new ShutWays().count(0), 4);
        for (String pair : PAIRS) {
            dueFault(filled(pair, 3, 0), NONE);
            dueFault(filled(pair, 0, 3), NONE);
            dueFault(filled(pair, 4, 0), pair.indexOf('#'));
            dueFault(filled(pair, 0, 4), pair.indexOf('#') + 2);
        }
    }

    private void twelveStreets() {
        ShutWays x = new ShutWays();
        due("streets at first", x.count(1), 0);
        due("street 0 at first", x.street(0, 2), UNKNOWN);
        for (int street = 0; street < 12; street++) {
            due("not yet street " + street, x.street(street, 2), UNKNOWN);
            Check.write(x, "street 0 1 " + (50 + street));
            due("text of street " + street, x.town(), 1);
            due("streets", x.count(1), street + 1);
            due("yards of street " + street, x.street(street, 2), 50 + street);
        }
        due("yards of street 0", x.street(0, 2), 50);
        Check.write(x, "street 0 1 62");
        due("a thirteenth", x.town(), NOT);
        due("streets", x.count(1), 12);
        due("street 12", x.street(12, 2), UNKNOWN);
        due("twelve in one text", Check.told(Towns.FULL).count(1), 12);
    }

    private void streetsGoBack() {
        dueWay("there", Check.told("street 0 1 7"), 7, 0);
        dueWay("back", Check.told("street 1 0 7"), 7, 0);
        dueWay("there and back", Check.told("street 2 0 3;street 2 1 4"), 7, 0, 1);
        ShutWays x = Check.told("street 3 2 7");
        due("from", x.street(0, 0), 3);
        due("to", x.street(0, 1), 2);
    }

    private void yardsOfStreets() {
        dueFault("street 0 1 0", 11);
        dueFault("street 0 1 00", 11);
        dueFault("street 0 1 100", 11);
        for (int yards : new int[] {1, 99}) {
            ShutWays x = Check.told("street 0 1 " + yards);
            due("yards", x.street(0, 2), yards);
            dueWay("a way", x, yards, 0);
        }
        dueWay("the longest way", Check.told(Towns.LONG), 693, 0, 1, 2, 3, 4, 5, 6);
    }

    private void prices() {
        due("price at first", withStreet().street(0, 3), 1);
        ShutWays x = withStreet();
        for (int price : new int[] {0, 99}) {
            Check.write(x, "price 0 " + price);
            due("one line", x.town(), 1);
            due("price", x.street(0, 3), price);
        }
        dueFault(x, "price 0 100", 8);
        due("price at first, of a street behind it", Check.told("street 0 1 5;price 0 7;street 0 1 5").street(1, 3), 1);
    }

    private void evenEnds() {
        ShutWays x = new ShutWays();
        due("market at first", x.count(9), 0);
        due("quay at first", x.count(10), 1);
        ShutWays y = Check.told("town 8;ends 7 0");
        due("market", y.count(9), 7);
        due("quay", y.count(10), 0);
        y.go(2);
        due("market of day 2", y.count(9), 7);
        due("quay of day 2", y.count(10), 0);
    }

    private void oddEnds() {
        ShutWays same = Check.told("ends 3 2");
        same.go(1);
        due("market of day 1, the same", same.count(9), 3);
        due("quay of day 1, the same", same.count(10), 2);
        ShutWays x = Check.told("town 8;ends 7 0;also 0 7");
        due("market of day 0", x.count(9), 7);
        due("quay of day 0", x.count(10), 0);
        x.go(1);
        due("market of day 1", x.count(9), 0);
        due("quay of day 1", x.count(10), 7);
        x.go(1);
        due("market of day 2", x.count(9), 7);
        for (int i = 0; i < 10; i++) {
            x.go(999);
        }
        x.go(7);
        due("market of day 9999", x.count(9), 0);
        due("quay of day 9999", x.count(10), 7);
    }

    private void kinds() {
        due("kind at first", new ShutWays().count(3), 0);
        for (int kind = 0; kind < 4; kind++) {
            due("kind of " + KINDS[kind], Check.told(KINDS[kind] + " 2").count(3), kind);
            due("kind at first, behind " + KINDS[kind], Check.told(KINDS[kind] + " 2", "town 4").count(3), 0);
        }
    }

    private void nightsOfCouncils() {
        due("k at first", new ShutWays().count(4), 2);
        dueShutFor(withStreet(), 2);
        for (String kind : KINDS) {
            dueFault(kind + " 0", kind.length() + 1);
            dueFault(kind + " 10", kind.length() + 1);
            for (int k : new int[] {1, 9}) {
                ShutWays x = Check.told("street 0 1 5", kind + " " + k);
                due("k of " + kind, x.count(4), k);
                dueShutFor(x, k);
            }
        }
    }

    private void dueShutFor(ShutWays x, int k) {
        for (int days = k; days >= 0; days--) {
            x.go(1);
            due("k " + k + ": shut for yet", x.street(0, 4), days);
            due("k " + k + ": by bits", x.count(8), days > 0 ? 1 : 0);
        }
    }

    private void fourLanes() {
        ShutWays x = new ShutWays();
        due("lanes at first", x.count(2), 0);
        for (int lane = 0; lane < 4; lane++) {
            due("not yet lane " + lane, x.lane(lane, 2), UNKNOWN);
            Check.write(x, "lane 0 1 " + (50 + lane) + " 7");
            due("text of lane " + lane, x.town(), 1);
            due("lanes", x.count(2), lane + 1);
            due("yards of lane " + lane, x.lane(lane, 2), 50 + lane);
        }
        due("yards of lane 0", x.lane(0, 2), 50);
        Check.write(x, "lane 0 1 54 7");
        due("a fifth", x.town(), NOT);
        due("lanes", x.count(2), 4);
        due("lane 4", x.lane(4, 2), UNKNOWN);
        due("streets", x.count(1), 0);
    }

    private void yardsAndCostOfLanes() {
        dueFault("lane 0 1 0 9", 9);
        dueFault("lane 0 1 100 9", 9);
        dueFault("lane 0 1 9 100", 11);
        ShutWays x = Check.told("lane 0 3 1 0;lane 3 0 99 99");
        int[][] due = {{0, 3, 1, 0}, {3, 0, 99, 99}};
        for (int lane = 0; lane < 2; lane++) {
            for (int what = 0; what < 4; what++) {
                due("lane(" + lane + ", " + what + ")", x.lane(lane, what), due[lane][what]);
            }
        }
    }

    private void yardsOfCarts() {
        due("yards at first", new ShutWays().count(5), 10);
        dueFault("cart 0", 5);
        dueFault("cart 100", 5);
        due("cart 1", Check.told("cart 1").count(5), 1);
        due("cart 99", Check.told("cart 99").count(5), 99);
        // With a cart on street 0 the two ways are alike, or that by street 1 is shorter by a yard.
        due("10 at first are enough", Check.told("street 0 1 1;street 0 1 10").carts(1, 1), 1);
        due("10 at first are not enough", Check.told("street 0 1 1;street 0 1 11").carts(1, 1), NONE);
        due("1 is enough", Check.told("street 0 1 5;street 0 1 5;cart 1").carts(1, 1), 1);
        due("1 is not enough", Check.told("street 0 1 5;street 0 1 6;cart 1").carts(1, 1), NONE);
        due("99 are enough", Check.told("street 0 1 1;street 0 2 49;street 2 1 50;cart 99").carts(1, 1), 1);
        due("99 are not enough", Check.told("street 0 1 1;street 0 2 50;street 2 1 50;cart 99").carts(1, 1), NONE);
    }

    private void twoHundredBytes() {
        ShutWays x = new ShutWays();
        for (int bytes = 8; bytes <= 200; bytes += 8) {
            due("8 more", x.write(0x2020_2020_2020_2020L, 8), bytes);
        }
        due("the end of 200", x.fault(), 200);
        due("one more", x.write(32, 1), FULL);
        due("eight more", x.write(32, 8), FULL);
        due("bytes", x.count(11), 200);
        due("a text of 200 is done", Towns.busyWithFullText().town(), 2);
        ShutWays y = Check.told(" ".repeat(193) + "cart 99");
        due("to its last byte", y.count(5), 99);
        dueFault(y, " ".repeat(193) + "cart 9x", 199);
    }

    private void signBetweenLines() {
        dueFault("cart 1;cart 1", NONE);
        dueFault("cart 1:cart 1", 6);
        dueFault("cart 1<cart 1", 6);
        dueFault("cart 1 cart 1", 7);
        dueFault("cart 1;;cart 1", 7);
        dueFault("cart 1;", 7);
        dueFault(";cart 1", 0);
        dueFault(";", 0);
    }

    private void twelveLines() {
        String eleven = "cart 1;".repeat(11);
        dueFault("cart 1", NONE);
        dueFault(eleven + "cart 12", NONE);
        dueFault(eleven + "cart 12 ", NONE);
        dueFault(eleven + "cart 12;cart 13", 84);
        dueFault(eleven + "cart 12 ;cart 13", 85);
        dueFault(eleven + "cart 12;", 84);
        ShutWays x = new ShutWays();
        Check.write(x, eleven + "cart 12");
        due("lines", x.town(), 12);
        due("the twelfth is done", x.count(5), 12);
        Check.write(x, eleven + "cart 12;cart 13");
        due("thirteen lines", x.town(), NOT);
    }

    private void noOtherLines() {
        for (String line : LINES) {
            dueFault(withStreet(), line, NONE);
            String[] tokens = line.split(" ");
            for (int i = 0, place = 0; i < tokens.length; place += tokens[i].length() + 1, i++) {
                String ahead = line.substring(0, place);
                String behind = line.substring(place + tokens[i].length());
                dueFault(withStreet(), ahead + (i == 0 ? "7" : "x") + behind, place);
                dueFault(withStreet(), ahead + ";" + behind, place);
                dueFault(withStreet(), ahead + "." + behind, place);
            }
            for (String more : new String[] {"1", "x", "town", "-"}) {
                dueFault(withStreet(), line + " " + more, line.length() + 1);
            }
            dueFault(withStreet(), tokens[0] + "s" + line.substring(tokens[0].length()), 0);
            dueFault(withStreet(), line.substring(1), 0);
        }
        dueFault("council 2", 0);
    }

    private void withoutPoints() {
        for (String line : LINES) {
            dueFault(withStreet(), line + ".", line.length());
        }
    }

    private void townBeginsAnew() {
        int[] due = {2, 0, 0, 0, 2, 10, 0, 0, 0, 0, 1, 0};
        ShutWays x = Towns.busy();
        x.erase();
        Check.write(x, "town 2");
        due("one line", x.town(), 1);
        ShutWays y = Check.told("ends 3 2;also 2 3;least 9;lane 0 1 1 1;cart 99;street 0 1 5;price 0 9;town 2");
        for (int what = 0; what < due.length; what++) {
            due("in a text of its own, count(" + what + ")", x.count(what), due[what]);
            due("behind other lines, count(" + what + ")", y.count(what), due[what]);
        }
        y.go(1);
        due("no odd ends, market", y.count(9), 0);
        due("no odd ends, quay", y.count(10), 1);
        Check.write(y, "street 1 0 3");
        due("one line", y.town(), 1);
        due("price at first", y.street(0, 3), 1);
        due("lines of the text are counted, those ahead of it too", lines("cart 1;town 3;cart 2"), 3);
    }

    private static int lines(String text) {
        ShutWays x = new ShutWays();
        Check.write(x, text);
        return x.town();
    }

    private void cornersUnlike() {
        for (String pair : PAIRS) {
            for (int corner = 0; corner < 4; corner++) {
                dueFault(filled(pair, corner, corner), pair.indexOf('#') + 2);
            }
            dueFault(pair.replaceFirst("#", "1").replaceFirst("#", "01"), pair.indexOf('#') + 2);
            dueFault(pair.replaceFirst("#", "01").replaceFirst("#", "1"), pair.indexOf('#') + 3);
        }
        dueFault("ends 4 4", 5);
    }

    private void cornersBehindLinesAhead() {
        dueFault("town 8;ends 6 7", NONE);
        dueFault("ends 6 7;town 8", 5);
        dueFault("town 2;ends 0 1", NONE);
        dueFault("town 2;ends 0 2", 14);
        dueFault("town 8;town 2;ends 7 0", 19);
        dueFault("town 2;town 8;ends 7 0", NONE);
        ShutWays x = Check.told("town 8");
        dueFault(x, "ends 6 7", NONE);
        dueFault(x, "town 7;ends 6 7", 14);
    }

    private void streetsBehindLinesAhead() {
        dueFault("price 0 5", 6);
        dueFault("street 0 1 1;price 0 5", NONE);
        dueFault("street 0 1 1;price 1 5", 19);
        dueFault("price 0 5;street 0 1 1", 6);
        dueFault("street 0 1 1;town 4;price 0 5", 26);
        dueFault(withStreet(), "price 0 5", NONE);
        dueFault(withStreet(), "price 1 5", 6);
        dueFault(withStreet(), "street 0 1 1;price 1 5", NONE);
        ShutWays x = Check.told(Towns.FULL);
        dueFault(x, "price 11 5", NONE);
        dueFault(x, "price 12 5", 6);
    }

    private void thirteenthStreet() {
        ShutWays x = Check.told(Towns.FULL);
        for (String text : new String[] {"street 0 1 1", "street", "street 9 9 9", "street x", "street;"}) {
            dueFault(x, text, 0);
            dueFault(x, "cart 1; " + text, 8);
        }
        dueFault(x, "streets 0 1 1", 0);
        dueFault(x, "town 4;street 0 1 1", NONE);
        ShutWays eleven = Check.told("street 0 1 1" + ";street 0 1 1".repeat(10));
        dueFault(eleven, "street 0 1 1", NONE);
        dueFault(eleven, "street 9 1 1", 7);
        dueFault(eleven, "street 0 1 1;street 0 1 1", 13);
        dueFault(eleven, "street 0 1 1;lane 0 1 1 1", NONE);
    }

    private void fifthLane() {
        String four = "lane 0 1 1 1" + ";lane 0 1 1 1".repeat(3);
        dueFault(four, NONE);
        for (String fifth : new String[] {"lane 0 1 1 1", "lane", "lane 9 9 9 9", "lane x"}) {
            dueFault(four + ";" + fifth, 52);
            dueFault(Check.told(four), fifth, 0);
        }
        dueFault(four + ";street 0 1 1", NONE);
        dueFault(four + ";town 4;lane 0 1 1 1", NONE);
    }

    private void smallLetters() {
        for (String text : new String[] {"Cart 1", "cArt 1", "carT 1", "CART 1", "carta 1", "cartz 1", "acart 1", "zcart 1",
            "`cart 1", "{cart 1", "@cart 1", "[cart 1", "ca`rt 1", (char) 227 + "cart 1"}) {
            dueFault(text, 0);
        }
        for (char sign : new char[] {'`', '{', '@', '[', 'A', 'Z', 0, 127, 128, 225, 250, 255}) {
            dueFault("cart" + sign + "1", 4);
            dueFault("cart 1" + sign, 6);
            dueFault("cart 1;" + sign + "cart 1", 7);
        }
    }

    private void oneOrTwoDigits() {
        due("one digit", Check.told("cart 9").count(5), 9);
        due("two digits", Check.told("cart 90").count(5), 90);
        due("two digits, the first 0", Check.told("cart 09").count(5), 9);
        for (String number : new String[] {"001", "009", "099", "100", "999", "0000000001", "4294967297", "18446744073709551617"}) {
            dueFault("cart " + number, 5);
        }
        dueFault("cart /", 5);
        dueFault("cart :", 5);
        dueFault("cart 1/", 6);
        dueFault("cart 1:", 6);
        dueFault("cart 1 1", 7);
        dueFault("cart 1x", 6);
        dueFault("cart -1", 5);
        dueFault("cart +1", 5);
    }

    private void blanks() {
        dueFault("cart 1", NONE);
        dueFault("   cart   1   ;   cart   1   ", NONE);
        dueFault("cart" + " ".repeat(195) + "1", NONE);
        for (char sign : new char[] {31, 33, 9, 10, 13, 0, 160, 255}) {
            dueFault("cart" + sign + "1", 4);
            dueFault(sign + "cart 1", 0);
            dueFault("cart 1" + sign, 6);
            dueFault("cart 1;" + sign + "cart 1", 7);
        }
        dueFault("ca rt 1", 0);
        dueFault("cart 1 0", 7);
    }

    private void firstFault() {
        dueFault("cart 0;cart 0", 5);
        dueFault("cart 1;cart 0;xyz", 12);
        dueFault("cart 1;  xyz 0", 9);
        dueFault("street 9 9 0", 7);
        dueFault("street 0 9 0", 9);
        dueFault("street 0 0 0", 9);
        dueFault("street 0 1 0", 11);
        dueFault("cart 123;", 5);
        dueFault("cart ..", 5);
        dueFault("cart 1..", 6);
        dueFault("cart 1;xcart 1", 7);
        dueFault("cart 1;cart1000", 11);
    }

    private void numbersOutOfBounds() {
        dueNumber("town #", 2, 8);
        dueNumber("street # 2 9", 0, 3);
        dueNumber("street 2 # 9", 0, 3);
        dueNumber("street 0 1 #", 1, 99);
        dueNumber("price # 9", 0, 0);
        dueNumber("price 0 #", 0, 99);
        dueNumber("ends # 2", 0, 3);
        dueNumber("ends 2 #", 0, 3);
        dueNumber("also # 2", 0, 3);
        dueNumber("also 2 #", 0, 3);
        for (String kind : KINDS) {
            dueNumber(kind + " #", 1, 9);
        }
        dueNumber("lane # 2 9 9", 0, 3);
        dueNumber("lane 2 # 9 9", 0, 3);
        dueNumber("lane 0 1 # 9", 1, 99);
        dueNumber("lane 0 1 9 #", 0, 99);
        dueNumber("cart #", 1, 99);
    }

    private void dueNumber(String line, int least, int greatest) {
        ShutWays x = withStreet();
        int place = line.indexOf('#');
        for (int number : new int[] {least, greatest}) {
            dueFault(x, line.replace("#", "" + number), NONE);
            dueFault(x, line.replace("#", number < 10 ? "0" + number : "" + number), NONE);
            dueFault(x, line.replace("#", (number < 10 ? "00" : "0") + number), place);
        }
        if (least > 0) {
            dueFault(x, line.replace("#", "" + (least - 1)), place);
        }
        dueFault(x, line.replace("#", "" + (greatest + 1)), place);
    }

    private void endTooSoon() {
        dueFault("", 0);
        dueFault(" ", 1);
        dueFault(" ".repeat(200), 200);
        for (String line : LINES) {
            for (int place = line.indexOf(' '); place >= 0; place = line.indexOf(' ', place + 1)) {
                dueFault(withStreet(), line.substring(0, place), place);
                dueFault(withStreet(), line.substring(0, place) + "   ", place + 3);
            }
            dueFault(withStreet(), line + ";", line.length() + 1);
            dueFault(withStreet(), line + "; ", line.length() + 2);
        }
    }

    private void linesInOrder() {
        ShutWays x = Check.told("cart 5;cart 7;first 3;least 4;ends 0 2;ends 3 1;also 1 2;also 2 1;street 0 1 8;price 0 5;price 0 6");
        due("cart", x.count(5), 7);
        due("kind", x.count(3), 3);
        due("k", x.count(4), 4);
        due("market", x.count(9), 3);
        due("quay", x.count(10), 1);
        due("price", x.street(0, 3), 6);
        x.go(1);
        due("odd market", x.count(9), 2);
        due("odd quay", x.count(10), 1);
    }

    private void behindLines() {
        ShutWays x = Towns.busy();
        due("days ahead of them", x.count(6), 6);
        due("lines", x.town(), 2);
        due("days", x.count(6), 0);
        due("shut by bits", x.count(8), 0);
        for (int street = 0; street < 5; street++) {
            due("street " + street + " is open", x.street(street, 4), 0);
        }
        due("nights", x.count(7), 0);
        due("judged", x.judge(), NONE);
        due("nothing is kept as 0", x.back(0), NOT);
        due("nothing is kept as 1", x.back(1), NOT);
        due("streets stay", x.count(1), 5);
        due("lanes stay", x.count(2), 2);
        due("a cart that is not told anew stays", Check.told("cart 33", "first 9").count(5), 33);
        due("a new night is the first", x.night(0), 1);
    }
}
