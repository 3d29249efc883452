import java.util.ArrayList;
import java.util.Arrays;
import java.util.HashMap;
import java.util.List;
import java.util.Map;
import java.util.regex.Matcher;
import java.util.regex.Pattern;

/**
 * The document once more, slow and plain, by other means than the class: ways by trying all of them, the fault by
 * patterns. It answers what the class is due to answer.
 */
final class Model {
    private static final int NONE = -1, UNKNOWN = -2, OUTSIDE = -3, NOT = -4, FULL = -5;

    /** A street or a lane; fee is the price, or the cost. */
    record Road(int a, int b, int yards, int fee) {
        int other(int corner) {
            return corner == a ? b : a;
        }
    }

    static final class Town {
        int corners = 4;
        List<Road> streets = new ArrayList<>();
        List<Road> lanes = new ArrayList<>();
        int[] ends = {0, 1};
        int[] also = null;
        String kind = "first";
        int k = 2;
        int cart = 10;

        Town copy() {
            Town t = new Town();
            t.corners = corners;
            t.streets = new ArrayList<>(streets);
            t.lanes = new ArrayList<>(lanes);
            t.ends = ends.clone();
            t.also = also == null ? null : also.clone();
            t.kind = kind;
            t.k = k;
            t.cart = cart;
            return t;
        }

        int[] ends(int day) {
            return day % 2 == 1 && also != null ? also : ends;
        }
    }

    /** A day; until holds the first day on which a street is open again. */
    record Moment(int day, List<Integer> until) {
        static Moment first(int streets) {
            return new Moment(0, new ArrayList<>(java.util.Collections.nCopies(streets, 0)));
        }

        boolean isOpen(int street) {
            return until.get(street) <= day;
        }

        Moment shut(int street, int firstOpen) {
            List<Integer> u = new ArrayList<>(until);
            u.set(street, Math.max(u.get(street), firstOpen));
            return new Moment(day, u);
        }

        Moment tomorrow() {
            return new Moment(day + 1, until);
        }

        int left(int street) {
            return Math.max(0, until.get(street) - day);
        }

        List<Integer> allLeft() {
            List<Integer> all = new ArrayList<>();
            for (int s = 0; s < until.size(); s++) {
                all.add(left(s));
            }
            return all;
        }
    }

    private StringBuilder text = new StringBuilder();
    private Town town = new Town();
    private Moment now = Moment.first(0);
    private final Moment[] kept = new Moment[2];
    private final List<Integer> nights = new ArrayList<>();

    // ---- ways

    private static void collect(Town t, Moment m, int at, int goal, List<Integer> path, int been, List<List<Integer>> all) {
        if (at == goal) {
            all.add(new ArrayList<>(path));
            return;
        }
        for (int s = 0; s < t.streets.size(); s++) {
            Road r = t.streets.get(s);
            if ((m == null || m.isOpen(s)) && (r.a == at || r.b == at) && (been >> r.other(at) & 1) == 0) {
                path.add(s);
                collect(t, m, r.other(at), goal, path, been | 1 << r.other(at), all);
                path.remove(path.size() - 1);
            }
        }
    }

    private static List<List<Integer>> waysOf(Town t, Moment m, int[] ends) {
        List<List<Integer>> all = new ArrayList<>();
        collect(t, m, ends[0], ends[1], new ArrayList<>(), 1 << ends[0], all);
        return all;
    }

    private static int yards(Town t, List<Integer> way) {
        return way.stream().mapToInt(s -> t.streets.get(s).yards).sum();
    }

    private static int compare(List<Integer> one, List<Integer> other) {
        for (int i = 0; i < Math.min(one.size(), other.size()); i++) {
            if (!one.get(i).equals(other.get(i))) {
                return Integer.compare(one.get(i), other.get(i));
            }
        }
        return Integer.compare(one.size(), other.size());
    }

    /** Null: there is none. */
    private static List<Integer> way(Town t, Moment m) {
        return waysOf(t, m, t.ends(m.day)).stream()
                .min((p, q) -> yards(t, p) != yards(t, q) ? yards(t, p) - yards(t, q) : compare(p, q)).orElse(null);
    }

    private static int shuts(Town t, List<Integer> way) {
        if (way == null) {
            return NONE;
        }
        List<Integer> sorted = way.stream().sorted().toList();
        return switch (t.kind) {
            case "first" -> way.get(0);
            case "last" -> way.get(way.size() - 1);
            case "least" -> sorted.get(0);
            default -> {
                int most = way.stream().mapToInt(s -> t.streets.get(s).yards).max().getAsInt();
                yield sorted.stream().filter(s -> t.streets.get(s).yards == most).findFirst().get();
            }
        };
    }

    private static Moment behindNight(Town t, Moment m, int street) {
        return (street == NONE ? m : m.shut(street, m.day + 1 + t.k)).tomorrow();
    }

    private static Moment behindNight(Town t, Moment m) {
        return behindNight(t, m, shuts(t, way(t, m)));
    }

    // ---- what is told

    int write(long bytes, int n) {
        if (n < 1 || n > 8) {
            return OUTSIDE;
        }
        if (text.length() + n > 200) {
            return FULL;
        }
        for (int i = 0; i < n; i++) {
            text.append((char) (bytes >> 8 * i & 255));
        }
        return text.length();
    }

    int erase() {
        int had = text.length();
        text.setLength(0);
        return had;
    }

    private static final Map<String, String> SHAPES = Map.ofEntries(Map.entry("town", "N"),
            Map.entry("street", "ABY"), Map.entry("price", "SP"), Map.entry("ends", "AB"), Map.entry("also", "AB"),
            Map.entry("first", "K"), Map.entry("last", "K"), Map.entry("longest", "K"), Map.entry("least", "K"),
            Map.entry("lane", "ABYC"), Map.entry("cart", "Y"));

    private static boolean fits(char letter, int number, Town t, List<Integer> ahead) {
        return switch (letter) {
            case 'N' -> number >= 2 && number <= 8;
            case 'A' -> number < t.corners;
            case 'B' -> number < t.corners && number != ahead.get(0);
            case 'Y' -> number >= 1;
            case 'S' -> number < t.streets.size();
            case 'K' -> number >= 1 && number <= 9;
            default -> true;
        };
    }

    private static Town done(Town t, String word, List<Integer> n) {
        switch (word) {
            case "town" -> {
                t = new Town();
                t.corners = n.get(0);
            }
            case "street" -> t.streets.add(new Road(n.get(0), n.get(1), n.get(2), 1));
            case "price" -> {
                Road r = t.streets.get(n.get(0));
                t.streets.set(n.get(0), new Road(r.a, r.b, r.yards, n.get(1)));
            }
            case "ends" -> t.ends = new int[] {n.get(0), n.get(1)};
            case "also" -> t.also = new int[] {n.get(0), n.get(1)};
            case "lane" -> t.lanes.add(new Road(n.get(0), n.get(1), n.get(2), n.get(3)));
            case "cart" -> t.cart = n.get(0);
            default -> {
                t.kind = word;
                t.k = n.get(0);
            }
        }
        return t;
    }

    /** What reading comes to: the town behind the lines, how many there were, the fault. */
    private record Read(Town town, int lines, int fault) { }

    private Read read() {
        Town t = town.copy();
        Matcher m = Pattern.compile("[a-z]+|[0-9]+|[^ ]", Pattern.DOTALL).matcher(text);
        for (int lines = 1; ; lines++) {
            if (!m.find()) {
                return new Read(null, 0, text.length());
            }
            String word = m.group();
            boolean noRoom = word.equals("street") && t.streets.size() == 12 || word.equals("lane") && t.lanes.size() == 4;
            if (!SHAPES.containsKey(word) || noRoom) {
                return new Read(null, 0, m.start());
            }
            List<Integer> numbers = new ArrayList<>();
            for (char letter : SHAPES.get(word).toCharArray()) {
                if (!m.find()) {
                    return new Read(null, 0, text.length());
                }
                if (!m.group().matches("[0-9]{1,2}") || !fits(letter, Integer.parseInt(m.group()), t, numbers)) {
                    return new Read(null, 0, m.start());
                }
                numbers.add(Integer.parseInt(m.group()));
            }
            t = done(t, word, numbers);
            if (!m.find()) {
                return new Read(t, lines, NONE);
            }
            if (!m.group().equals(";") || lines == 12) {
                return new Read(null, 0, m.start());
            }
        }
    }

    int fault() {
        return read().fault;
    }

    int town() {
        Read r = read();
        if (r.fault != NONE) {
            return NOT;
        }
        town = r.town;
        text.setLength(0);
        now = Moment.first(town.streets.size());
        Arrays.fill(kept, null);
        nights.clear();
        return r.lines;
    }

    private boolean isStreet(int s) {
        return s >= 0 && s < town.streets.size();
    }

    private static int tell(Road r, int what) {
        return switch (what) {
            case 0 -> r.a;
            case 1 -> r.b;
            case 2 -> r.yards;
            case 3 -> r.fee;
            default -> OUTSIDE;
        };
    }

    int street(int street, int what) {
        if (!isStreet(street)) {
            return UNKNOWN;
        }
        return what == 4 ? now.left(street) : tell(town.streets.get(street), what);
    }

    int lane(int lane, int what) {
        return lane >= 0 && lane < town.lanes.size() ? tell(town.lanes.get(lane), what) : UNKNOWN;
    }

    int as(int kind) {
        if (kind < 0 || kind > 4) {
            return OUTSIDE;
        }
        List<Integer> kinds = Map.of("first", List.of(0, 1), "last", List.of(0, 1, 2), "longest", List.of(0, 3),
                "least", List.of(0, 3, 4)).get(town.kind);
        return kinds.contains(kind) ? shuts(town, way(town, now)) : NOT;
    }

    // ---- days and nights

    int way(int what) {
        if (what < 0 || what > 21 || what > 1 && what < 10) {
            return OUTSIDE;
        }
        List<Integer> way = way(town, now);
        if (way == null || what >= 10 && what - 10 >= way.size()) {
            return NONE;
        }
        return what == 0 ? yards(town, way) : what == 1 ? way.size() : way.get(what - 10);
    }

    int go(int n) {
        if (n < 1 || n > 999) {
            return OUTSIDE;
        }
        if (now.day + n > 9999) {
            return FULL;
        }
        for (int i = 0; i < n; i++) {
            now = behindNight(town, now);
        }
        return now.day;
    }

    int flood(int street, int n) {
        if (!isStreet(street)) {
            return UNKNOWN;
        }
        if (n < 1 || n > 99) {
            return OUTSIDE;
        }
        now = now.shut(street, now.day + n);
        return now.left(street);
    }

    int fair() {
        int were = Integer.bitCount(shutBits());
        now = new Moment(now.day, Moment.first(town.streets.size()).until);
        return were;
    }

    private int shutBits() {
        int bits = 0;
        for (int s = 0; s < town.streets.size(); s++) {
            bits |= now.isOpen(s) ? 0 : 1 << s;
        }
        return bits;
    }

    int keep(int k) {
        if (k != 0 && k != 1) {
            return UNKNOWN;
        }
        kept[k] = now;
        return now.day;
    }

    int back(int k) {
        if (k != 0 && k != 1) {
            return UNKNOWN;
        }
        if (kept[k] == null) {
            return NOT;
        }
        now = kept[k];
        return now.day;
    }

    // ---- foretold

    /** The ways of so many days from today on; null where there is none. */
    private List<List<Integer>> waysAhead(Town t, Moment from, int days) {
        List<List<Integer>> ways = new ArrayList<>();
        Moment m = from;
        for (int d = 0; d < days; d++) {
            ways.add(way(t, m));
            m = behindNight(t, m, shuts(t, ways.get(d)));
        }
        return ways;
    }

    int later(int t) {
        if (t < 0 || t > 99) {
            return OUTSIDE;
        }
        List<Integer> way = waysAhead(town, now, t + 1).get(t);
        return way == null ? NONE : yards(town, way);
    }

    int never() {
        return waysAhead(town, now, 400).indexOf(null);
    }

    private static int mostApart(List<Integer> masks, int from, int used) {
        int best = 0;
        for (int i = from; i < masks.size(); i++) {
            if ((masks.get(i) & used) == 0) {
                best = Math.max(best, 1 + mostApart(masks, i + 1, used | masks.get(i)));
            }
        }
        return best;
    }

    int apart() {
        List<Integer> masks = waysOf(town, null, town.ends(now.day)).stream()
                .map(w -> w.stream().mapToInt(s -> 1 << s).sum()).toList();
        return mostApart(masks, 0, 0);
    }

    int round(int what) {
        if (what != 0 && what != 1) {
            return OUTSIDE;
        }
        Map<List<Integer>, Integer> seen = new HashMap<>();
        Moment m = now;
        for (int d = 0; d <= 1000; d++) {
            List<Integer> state = m.allLeft();
            state.add(town.also == null ? 0 : m.day % 2);
            Integer before = seen.putIfAbsent(state, d);
            if (before != null) {
                return what == 0 ? before : d - before;
            }
            m = behindNight(town, m);
        }
        return NONE;
    }

    int passed(int street, int days) {
        if (!isStreet(street)) {
            return UNKNOWN;
        }
        if (days < 1 || days > 99) {
            return OUTSIDE;
        }
        return (int) waysAhead(town, now, days).stream().filter(w -> w != null && w.contains(street)).count();
    }

    int most(int days) {
        if (days < 1 || days > 99) {
            return OUTSIDE;
        }
        int best = NONE;
        int often = 0;
        for (int s = 0; s < town.streets.size(); s++) {
            int p = passed(s, days);
            if (p > often) {
                often = p;
                best = s;
            }
        }
        return best;
    }

    int build(int days, int far, int what) {
        if (days < 1 || days > 60 || far < 1 || far > 999 || what != 0 && what != 1) {
            return OUTSIDE;
        }
        int bestSet = NONE;
        int bestCost = NONE;
        for (int set = 0; set < 1 << town.lanes.size(); set++) {
            Town t = town.copy();
            List<Integer> until = new ArrayList<>(now.until);
            int cost = 0;
            for (int l = 0; l < town.lanes.size(); l++) {
                if ((set >> l & 1) == 1) {
                    t.streets.add(town.lanes.get(l));
                    until.add(0);
                    cost += town.lanes.get(l).fee;
                }
            }
            boolean isNear = waysAhead(t, new Moment(now.day, until), days).stream()
                    .allMatch(w -> w != null && yards(t, w) <= far);
            if (isNear && (bestSet == NONE || cost < bestCost)) {
                bestSet = set;
                bestCost = cost;
            }
        }
        return what == 0 ? bestCost : bestSet;
    }

    private void sums(Moment m, int nightsLeft, int sum, List<Integer> all) {
        List<Integer> way = way(town, m);
        int with = sum + (way == null ? 999 : yards(town, way));
        if (nightsLeft == 0) {
            all.add(with);
            return;
        }
        for (int s : way == null ? List.of(NONE) : way) {
            sums(behindNight(town, m, s), nightsLeft - 1, with, all);
        }
    }

    int chosen(int m, int what) {
        if (m < 1 || m > 5 || what != 0 && what != 1) {
            return OUTSIDE;
        }
        List<Integer> all = new ArrayList<>();
        sums(now, m, 0, all);
        return what == 0 ? java.util.Collections.min(all) : java.util.Collections.max(all);
    }

    int carts(int street, int what) {
        if (!isStreet(street)) {
            return UNKNOWN;
        }
        if (what != 0 && what != 1) {
            return OUTSIDE;
        }
        int bestSet = NONE;
        int bestPrice = NONE;
        for (int set = 0; set < 1 << town.streets.size(); set++) {
            Town t = town.copy();
            int price = 0;
            for (int s = 0; s < t.streets.size(); s++) {
                Road r = t.streets.get(s);
                if ((set >> s & 1) == 1) {
                    t.streets.set(s, new Road(r.a, r.b, r.yards + town.cart, r.fee));
                    price += r.fee;
                }
            }
            if (bestSet != NONE && price >= bestPrice) {
                continue;
            }
            List<Integer> way = way(t, now);
            if (way != null && way.contains(street)) {
                bestSet = set;
                bestPrice = price;
            }
        }
        return what == 0 ? bestPrice : bestSet;
    }

    // ---- nights told

    int night(int street) {
        if (street != NONE && !isStreet(street)) {
            return UNKNOWN;
        }
        if (nights.size() == 12) {
            return FULL;
        }
        nights.add(street);
        return nights.size();
    }

    int forget() {
        int were = nights.size();
        nights.clear();
        return were;
    }

    private int judge(Town t) {
        Moment m = Moment.first(t.streets.size());
        for (int i = 0; i < nights.size(); i++) {
            int s = shuts(t, way(t, m));
            if (s != nights.get(i)) {
                return i;
            }
            m = behindNight(t, m, s);
        }
        return NONE;
    }

    int judge() {
        return judge(town);
    }

    int fits(int street, int what) {
        if (!isStreet(street)) {
            return UNKNOWN;
        }
        if (what < 0 || what > 2) {
            return OUTSIDE;
        }
        List<Integer> fit = new ArrayList<>();
        for (int y = 1; y <= 99; y++) {
            Town t = town.copy();
            Road r = t.streets.get(street);
            t.streets.set(street, new Road(r.a, r.b, y, r.fee));
            if (judge(t) == NONE) {
                fit.add(y);
            }
        }
        if (what == 0) {
            return fit.size();
        }
        return fit.isEmpty() ? NONE : fit.get(what == 1 ? 0 : fit.size() - 1);
    }

    int count(int what) {
        return switch (what) {
            case 0 -> town.corners;
            case 1 -> town.streets.size();
            case 2 -> town.lanes.size();
            case 3 -> List.of("first", "last", "longest", "least").indexOf(town.kind);
            case 4 -> town.k;
            case 5 -> town.cart;
            case 6 -> now.day;
            case 7 -> nights.size();
            case 8 -> shutBits();
            case 9 -> town.ends(now.day)[0];
            case 10 -> town.ends(now.day)[1];
            case 11 -> text.length();
            default -> OUTSIDE;
        };
    }
}
