import java.util.List;
import java.util.function.Supplier;
import java.util.function.ToIntFunction;

/** A part of the document, tested sentence by sentence, and what the tests share. */
abstract class Part {
    static final int NONE = -1, UNKNOWN = -2, OUTSIDE = -3, NOT = -4, FULL = -5;
    static final int LEAST_INT = Integer.MIN_VALUE, GREATEST_INT = Integer.MAX_VALUE;

    final Sentences say;

    Part(Sentences say) {
        this.say = say;
    }

    abstract void all();

    final void due(String what, long got, long want) {
        say.due(what, got, want);
    }

    final void dueFault(String text, int place) {
        dueFault(new ShutWays(), text, place);
    }

    final void dueFault(ShutWays x, String text, int place) {
        due("fault of '" + text + "'", Check.faultOf(x, text), place);
    }

    final void dueWay(String when, ShutWays x, int yards, int... streets) {
        due(when + ", yards", x.way(0), yards);
        due(when + ", streets", x.way(1), streets.length);
        for (int i = 0; i < 12; i++) {
            due(when + ", street " + i, x.way(10 + i), i < streets.length ? streets[i] : NONE);
        }
    }

    final void dueNoWay(String when, ShutWays x) {
        due(when + ", yards", x.way(0), NONE);
        due(when + ", streets", x.way(1), NONE);
        due(when + ", the first", x.way(10), NONE);
        due(when + ", the last", x.way(21), NONE);
    }

    /** The call has this answer, and behind it all is as in a twin on which it was not called. */
    final void dueUnchanged(String call, Supplier<ShutWays> town, ToIntFunction<ShutWays> called, int answer) {
        ShutWays x = town.get();
        due(call, called.applyAsInt(x), answer);
        List<String> seen = Seen.of(x);
        List<String> twin = Seen.of(town.get());
        due(call + " changes nothing: so many answers", seen.size(), twin.size());
        for (int i = 0; i < Math.min(seen.size(), twin.size()); i++) {
            say.holds(call + " changes nothing: " + seen.get(i) + ", but without it " + twin.get(i),
                    seen.get(i).equals(twin.get(i)));
        }
    }

    /** Likewise, for each of some numbers that the call is given. */
    final void dueUnchanged(String call, Supplier<ShutWays> town, Numbered called, int answer, int... numbers) {
        for (int number : numbers) {
            dueUnchanged(call + " of " + number, town, x -> called.on(x, number), answer);
        }
    }

    /** A call that is given a number. */
    interface Numbered {
        int on(ShutWays x, int number);
    }
}
