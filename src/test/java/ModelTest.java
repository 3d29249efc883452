import java.nio.charset.StandardCharsets;
import java.util.Random;

/** Runs of calls made by a seed, always the same ones, on the class and on the model: each answer alike. */
public final class ModelTest {
    private static final int RUNS = 400, ROUNDS = 60, MOST_CALLS = 400, WRONG_AT_MOST = 20;

    private final Check check;
    private final Random random;
    private final ShutWays x = new ShutWays();
    private final Model model = new Model();
    private final int run;
    private int calls = 0;

    private ModelTest(Check check, int run) {
        this.check = check;
        this.run = run;
        this.random = new Random(run);
    }

    public static void main(String[] args) {
        Check check = new Check("ModelTest");
        for (int run = 0; run < RUNS && check.wrongSoFar() < WRONG_AT_MOST; run++) {
            new ModelTest(check, run).go();
        }
        check.end();
    }

    private void due(String call, int got, int want) {
        calls++;
        check.due("run " + run + ", call " + calls + ": " + call, got, want);
    }

    private void go() {
        for (int round = 0; round < ROUNDS && calls < MOST_CALLS; round++) {
            int choice = random.nextInt(20);
            if (round == 0 || choice == 0) {
                tell(newTown());
                tell(lines(random.nextInt(10)));
            } else if (choice == 1) {
                tell(lines(1 + random.nextInt(3)));
            } else if (choice == 2) {
                tell(spoilt(lines(1 + random.nextInt(4))));
            } else if (choice < 6) {
                ask(random.nextInt(15));
            } else if (choice < 8) {
                nights();
            } else {
                ask(random.nextInt(15) + 5);
            }
        }
    }

    // ---- texts

    private int corners = 4;

    private String newTown() {
        corners = 2 + random.nextInt(7);
        StringBuilder text = new StringBuilder("town " + corners);
        int streets = random.nextInt(12);
        for (int i = 0; i < streets; i++) {
            text.append(';').append(street());
        }
        return text.toString();
    }

    private String pair() {
        int a = random.nextInt(corners);
        int b = (a + 1 + random.nextInt(corners - 1)) % corners;
        return a + " " + (random.nextInt(40) == 0 ? a : b);
    }

    private String street() {
        int yards = random.nextInt(4) == 0 ? random.nextInt(101) : 1 + random.nextInt(6);
        return "street " + pair() + " " + yards;
    }

    private String lines(int more) {
        StringBuilder text = new StringBuilder(council());
        for (int i = 0; i < more; i++) {
            text.append(random.nextInt(8) == 0 ? " ; " : ";").append(line());
        }
        return text.toString();
    }

    private String council() {
        String[] kinds = {"first", "last", "longest", "least"};
        return kinds[random.nextInt(4)] + " " + (random.nextInt(20) == 0 ? random.nextInt(12) : 1 + random.nextInt(4));
    }

    private String line() {
        switch (random.nextInt(9)) {
            case 0: case 1: return street();
            case 2: return "price " + random.nextInt(9) + " " + random.nextInt(5);
            case 3: return "ends " + pair();
            case 4: return "also " + pair();
            case 5: case 6: return "lane " + pair() + " " + (1 + random.nextInt(9)) + " " + random.nextInt(6);
            case 7: return "cart " + (1 + random.nextInt(9));
            default: return council();
        }
    }

    private String spoilt(String text) {
        StringBuilder s = new StringBuilder(text);
        String signs = " ;;09az{A/:@`\u0000\u00ff";
        for (int i = 0; i < 1 + random.nextInt(2); i++) {
            int place = random.nextInt(s.length());
            char sign = signs.charAt(random.nextInt(signs.length()));
            switch (random.nextInt(3)) {
                case 0: s.insert(place, sign); break;
                case 1: s.setCharAt(place, sign); break;
                default: s.setLength(place + 1); break;
            }
        }
        return s.toString();
    }

    private void tell(String text) {
        byte[] bytes = text.getBytes(StandardCharsets.ISO_8859_1);
        for (int from = 0; from < bytes.length; ) {
            int n = Math.min(bytes.length - from, 8 - (random.nextInt(6) == 0 ? random.nextInt(8) : 0));
            long packed = Check.packed(bytes, from, n);
            due("write of " + text, x.write(packed, n), model.write(packed, n));
            from += n;
        }
        due("fault of " + text, x.fault(), model.fault());
        due("town of " + text, x.town(), model.town());
        due("erase of " + text, x.erase(), model.erase());
        for (int what = -1; what <= 12; what++) {
            due("count(" + what + ")", x.count(what), model.count(what));
        }
    }

    // ---- calls

    private int upTo(int most) {
        return random.nextInt(10) == 0 ? random.nextInt(most + 3) - 1 : 1 + random.nextInt(most);
    }

    private int street12() {
        int streets = Math.max(1, model.count(1));
        return random.nextInt(10) == 0 ? random.nextInt(15) - 2 : random.nextInt(streets);
    }

    private void nights() {
        due("forget()", x.forget(), model.forget());
        due("keep(1)", x.keep(1), model.keep(1));
        int many = random.nextInt(8);
        for (int i = 0; i < many; i++) {
            int s = random.nextInt(12) == 0 ? street12() : model.as(0);
            due("night(" + s + ")", x.night(s), model.night(s));
            due("go(1)", x.go(1), model.go(1));
        }
        due("judge()", x.judge(), model.judge());
        int s = street12();
        for (int what = 0; what < 3; what++) {
            due("fits(" + s + ", " + what + ")", x.fits(s, what), model.fits(s, what));
        }
        due("back(1)", x.back(1), model.back(1));
    }

    private void ask(int which) {
        int s = street12();
        int what = random.nextInt(20) == 0 ? random.nextInt(7) - 1 : random.nextInt(2);
        int n;
        switch (which) {
            case 0: n = upTo(7); due("go(" + n + ")", x.go(n), model.go(n)); break;
            case 1: n = upTo(5); due("flood(" + s + ", " + n + ")", x.flood(s, n), model.flood(s, n)); break;
            case 2: n = upTo(99); due("flood(" + s + ", " + n + ")", x.flood(s, n), model.flood(s, n)); break;
            case 3: due("fair()", x.fair(), model.fair()); break;
            case 4: n = random.nextInt(4) - 1; due("keep(" + n + ")", x.keep(n), model.keep(n)); break;
            case 5: n = random.nextInt(4) - 1; due("back(" + n + ")", x.back(n), model.back(n)); break;
            case 6: n = random.nextInt(7) - 1; due("as(" + n + ")", x.as(n), model.as(n)); break;
            case 7: allOfTheWay(); break;
            case 8: n = upTo(99); due("later(" + n + ")", x.later(n), model.later(n)); break;
            case 9: due("never()", x.never(), model.never()); break;
            case 10: due("apart()", x.apart(), model.apart()); break;
            case 11: due("round(" + what + ")", x.round(what), model.round(what)); break;
            case 12: n = upTo(99); due("passed(" + s + ", " + n + ")", x.passed(s, n), model.passed(s, n)); break;
            case 13: n = upTo(30); due("most(" + n + ")", x.most(n), model.most(n)); break;
            case 14: case 15: lanes(); break;
            case 16: n = upTo(5); due("chosen(" + n + ", " + what + ")", x.chosen(n, what), model.chosen(n, what)); break;
            case 17: case 18: due("carts(" + s + ", " + what + ")", x.carts(s, what), model.carts(s, what)); break;
            default: allOfStreets(what); break;
        }
    }

    private void allOfTheWay() {
        for (int what = -1; what <= 22; what++) {
            due("way(" + what + ")", x.way(what), model.way(what));
        }
    }

    private void allOfStreets(int what) {
        for (int s = -1; s <= 12; s++) {
            int of = s == 12 ? what : 4;
            due("street(" + s + ", " + of + ")", x.street(s, of), model.street(s, of));
            due("lane(" + s + ", " + what + ")", x.lane(s, what), model.lane(s, what));
        }
    }

    private void lanes() {
        int days = upTo(60);
        int far = random.nextInt(4) == 0 ? upTo(999) : 1 + random.nextInt(12);
        for (int what = 0; what < 2; what++) {
            due("build(" + days + ", " + far + ", " + what + ")", x.build(days, far, what), model.build(days, far, what));
        }
    }
}
