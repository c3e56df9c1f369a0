import java.util.ArrayList;
import java.util.List;

/**
 * Two objects with the same calls behind them: one more call that is refused, or that only asks, is
 * made on one of them; whatever is asked or done then, both answer alike.
 */
final class Twins {
    interface Calls {
        void on(GridLaws x);
    }

    interface Call {
        long on(GridLaws x);
    }

    private Twins() {
    }

    /** The call answers what is due, and leaves all as it is. */
    static void stays(String call, Calls before, long want, Call refused) {
        GridLaws plain = new GridLaws();
        GridLaws asked = new GridLaws();
        before.on(plain);
        before.on(asked);
        Check.due(call, want, refused.on(asked));
        compare(call, plain, asked);
    }

    static void isRefused(String call, Calls before, Call refused) {
        stays(call, before, GridLaws.NONE, refused);
    }

    /** Both runs of calls leave the same behind them. */
    static void areAlike(String what, Calls one, Calls other) {
        GridLaws x = new GridLaws();
        GridLaws y = new GridLaws();
        one.on(x);
        other.on(y);
        compare(what, x, y);
    }

    private static void compare(String what, GridLaws plain, GridLaws asked) {
        List<Long> due = all(plain);
        List<Long> got = all(asked);
        Check.due("all stays behind " + what, true, due.equals(got));
    }

    private static void look(GridLaws x, List<Long> seen) {
        for (int what = -1; what <= 15; what++) {
            seen.add((long) x.about(what));
            seen.add((long) x.lies(what));
        }
        for (int cell = 0; cell < 20; cell++) {
            seen.add((long) x.square(cell));
        }
        for (int slot = 0; slot < x.slots(); slot++) {
            seen.add((long) x.fits(slot));
            for (int what = 0; what <= 6; what++) {
                seen.add((long) x.slot(slot, what));
            }
        }
        for (int act = 0; act < 16; act++) {
            seen.add((long) x.places(act));
            for (int party = 0; party < 3; party++) {
                seen.add((long) x.wants(party, act));
            }
        }
        seen.add((long) x.follows());
        seen.add((long) x.against());
    }

    private static void lookAtPrints(GridLaws x, List<Long> seen) {
        int now = x.about(11);
        for (int k : new int[] {-1, 0, 1, now - 1, now, now + 1}) {
            seen.add((long) x.prints(k));
            for (int cell = 0; cell < 20; cell++) {
                seen.add((long) x.sure(cell, k));
            }
            seen.add((long) x.ask(0, k));
            seen.add((long) x.ask(1, k));
        }
    }

    /** All that can be asked, and then what undoing, redoing, untelling, boxes and the tape bring. */
    private static List<Long> all(GridLaws x) {
        List<Long> seen = new ArrayList<>();
        seen.add((long) x.fault(0));
        seen.add((long) x.fault(1));
        look(x, seen);
        lookAtPrints(x, seen);
        int forth = x.about(9);
        for (int i = 0; i < forth && x.redo(); i++) {
            look(x, seen);
        }
        int kept = x.about(8);
        for (int i = 0; i < kept && x.undo(); i++) {
            look(x, seen);
        }
        for (int i = 0; i < kept && x.redo(); i++) {
            look(x, seen);
        }
        for (int sight = 0; sight < 30; sight++) {
            seen.add(x.untell(sight) ? 1L : 0L);
        }
        lookAtPrints(x, seen);
        seen.add((long) x.sight(0, 1, true));
        for (int box = 0; box < 3; box++) {
            seen.add((long) x.back(box));
            look(x, seen);
        }
        seen.add((long) x.grid());
        seen.add((long) x.fault(0));
        seen.add((long) x.fault(1));
        look(x, seen);
        return seen;
    }
}
