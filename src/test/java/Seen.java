import java.util.ArrayList;
import java.util.List;

/** All that can be seen of an object, so that two of them can be compared. Some 250 calls; the object is used up. */
final class Seen {
    private final ShutWays x;
    private final List<String> answers = new ArrayList<>();

    private Seen(ShutWays x) {
        this.x = x;
    }

    static List<String> of(ShutWays x) {
        Seen seen = new Seen(x);
        seen.lookAtTown();
        seen.lookAhead();
        seen.lookAtNights();
        seen.lookAtKept();
        seen.add("fault()", x.fault());
        seen.add("town()", x.town());
        seen.lookAtTown();
        return seen.answers;
    }

    private void add(String call, int answer) {
        answers.add(call + " answered " + answer);
    }

    private void lookAtTown() {
        for (int what = 0; what <= 11; what++) {
            add("count(" + what + ")", x.count(what));
        }
        for (int street = 0; street < x.count(1); street++) {
            for (int what = 0; what <= 4; what++) {
                add("street(" + street + ", " + what + ")", x.street(street, what));
            }
        }
        for (int lane = 0; lane < x.count(2); lane++) {
            for (int what = 0; what <= 3; what++) {
                add("lane(" + lane + ", " + what + ")", x.lane(lane, what));
            }
        }
    }

    private void lookAhead() {
        for (int i = -1; i < 7; i++) {
            int what = i < 0 ? 0 : 10 + i;
            add("way(" + what + ")", x.way(what));
        }
        add("as(0)", x.as(0));
        add("later(1)", x.later(1));
        add("later(9)", x.later(9));
        add("round(0)", x.round(0));
        add("round(1)", x.round(1));
    }

    private void lookAtNights() {
        add("judge()", x.judge());
        for (int street = 0; street < x.count(1); street++) {
            for (int what = 0; what <= 2; what++) {
                add("fits(" + street + ", " + what + ")", x.fits(street, what));
            }
        }
    }

    private void lookAtKept() {
        for (int k = 0; k <= 1; k++) {
            add("back(" + k + ")", x.back(k));
            add("then count(6)", x.count(6));
            for (int street = 0; street < x.count(1); street++) {
                add("then street(" + street + ", 4)", x.street(street, 4));
            }
        }
    }
}
