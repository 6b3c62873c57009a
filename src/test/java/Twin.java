import java.util.ArrayList;
import java.util.List;

/**
 * Makes a call on a tour and compares all that the tour holds with a twin on which the call was not made.
 * What no value tells (ways, lenders, the rate for ways, the text, the saved states) is found by going on
 * with the tour; so a tour is made anew for each look, and none is used for more than 512 calls.
 */
final class Twin {
    /** Makes a tour; each one that it makes is like the others. */
    interface Scene {
        CrateTour make();
    }

    /** A call on a tour, or several, with an answer. */
    interface Ask {
        long of(CrateTour tour);
    }

    /** A call on a tour with a number that is being looked at. */
    interface Use {
        long with(CrateTour tour, int value);
    }

    static final int LOW = Integer.MIN_VALUE;
    static final int HIGH = Integer.MAX_VALUE;
    private static final long REFUSED = Long.MIN_VALUE;
    private static final int KEPT_STATES = 4;

    private Twin() {
    }

    /** The call throws what is due and leaves all as it was. */
    static void refuses(String what, Class<? extends RuntimeException> due, Scene scene, Ask call) {
        CrateTour tour = scene.make();
        Expect.raises(what, due, () -> call.of(tour));
        leavesAll(what, scene, call);
    }

    /** The same for each of some numbers. */
    static void refuses(String what, Class<? extends RuntimeException> due, Scene scene, Use use, int... values) {
        for (int value : values) {
            refuses(what + " of " + value, due, scene, t -> use.with(t, value));
        }
    }

    /** The call answers what is due and leaves all as it was. */
    static void tells(String what, Scene scene, Ask call, long due) {
        Expect.same(what, call.of(scene.make()), due);
        leavesAll(what, scene, call);
    }

    /** Numbers from the least to the greatest are taken, and told then; the next ones on both sides are not. */
    static void range(String what, Class<? extends RuntimeException> due, int least, int greatest, Scene scene,
            Use use, Ask told) {
        for (int value : new int[] {least, greatest, least + (greatest - least) / 2}) {
            CrateTour tour = scene.make();
            use.with(tour, value);
            Expect.same(what + " of " + value + " as it is told", told.of(tour), value);
        }
        refuses(what, due, scene, use, least - 1, greatest + 1, LOW, HIGH);
    }

    /** The call answers what is due, saves one state, and undo() brings back all that was. */
    static void isUndoable(String what, Scene scene, Ask call, long due) {
        CrateTour tour = scene.make();
        int saved = saved(scene);
        Expect.isTrue(what + ": a tour with room on its undo stack", saved < KEPT_STATES);
        Expect.same(what, call.of(tour), due);
        Expect.same(what + ": states left behind undo()", tour.undo(), saved);
        leavesAll(what + " and undo()", scene, t -> {
            call.of(t);
            return t.undo();
        });
    }

    private static void leavesAll(String what, Scene scene, Ask call) {
        Scene behind = () -> {
            CrateTour tour = scene.make();
            answer(tour, call);
            return tour;
        };
        Expect.isTrue(what + " leaves all as it was", everything(behind).equals(everything(scene)));
    }

    /** How many states are on the undo stack. */
    static int saved(Scene scene) {
        CrateTour tour = scene.make();
        int count = 0;
        while (count < 10 && answer(tour, CrateTour::undo) != REFUSED) {
            count++;
        }
        return count;
    }

    /** All that the tour and its saved states hold. */
    static List<Long> everything(Scene scene) {
        List<Long> row = new ArrayList<>();
        for (int times = 0; times <= KEPT_STATES + 1; times++) {
            row.addAll(settings(undone(scene, times, row)));
            addFuture(row, undone(scene, times, row));
        }
        return row;
    }

    private static CrateTour undone(Scene scene, int times, List<Long> row) {
        CrateTour tour = scene.make();
        for (int i = 0; i < times; i++) {
            row.add(answer(tour, CrateTour::undo));
        }
        row.add(tour.digest());
        return tour;
    }

    /** Lenders, ways and the rate for ways, as the calls that set them tell; they are others then. */
    static List<Long> settings(CrateTour tour) {
        List<Long> row = new ArrayList<>();
        for (int lender = 0; lender < 6; lender++) {
            for (int what = 0; what < 4; what++) {
                row.add((long) tour.setLender(lender, what, 30));
            }
        }
        for (int a = 0; a < tour.whole(1); a++) {
            for (int b = 0; b < a; b++) {
                row.add((long) tour.setWay(a, b, 1));
            }
        }
        row.add((long) tour.setWayRate(1));
        return row;
    }

    private static void addFuture(List<Long> row, CrateTour tour) {
        row.add((long) tour.runCommands());
        row.add(tour.digest());
        row.add((long) tour.advance(20));
        row.add(tour.digest());
        row.add((long) tour.advance(240));
        row.add(tour.digest());
    }

    private static long answer(CrateTour tour, Ask call) {
        try {
            return call.of(tour);
        } catch (RuntimeException e) {
            return REFUSED;
        }
    }
}
