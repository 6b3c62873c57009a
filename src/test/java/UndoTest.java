import java.util.ArrayList;
import java.util.List;

/** Promises 31 and 32: undo and the checksum. */
public final class UndoTest {
    private static final int NONE = CrateTour.NONE;

    public static void main(String[] args) {
        undoOfAnEmptyStack();
        undoKeepsFourStates();
        undoBringsBackAll();
        undoOfWhatIsNotTold();
        whatSavesNothing();
        refusedCallsSaveNothing();
        undoLeavesTheText();
        digestOfATourInUse();
        digestOfAFullTour();
        Expect.done("UndoTest");
    }

    private static void undoOfAnEmptyStack() {
        CrateTour t = new CrateTour();
        Expect.refuses("undo()", Expect.STATE, t, t::undo);
        t.advance(1);
        Expect.same("undo()", t.undo(), 0);
        Expect.refuses("undo() again", Expect.STATE, t, t::undo);
        Expect.same("time", t.whole(0), 0);
    }

    private static void undoKeepsFourStates() {
        CrateTour t = new CrateTour();
        for (int i = 1; i <= 7; i++) {
            t.advance(i);
            Expect.same("states saved", Scenes.saved(t, 0), Math.min(i, 4));
        }
        int[] times = {21, 15, 10, 6};
        for (int i = 0; i < 4; i++) {
            Expect.same("undo()", t.undo(), 3 - i);
            Expect.same("time", t.whole(0), times[i]);
        }
        Expect.refuses("fifth undo()", Expect.STATE, t, t::undo);
        Expect.same("time", t.whole(0), 6);
        t.advance(100);
        t.advance(100);
        t.undo();
        t.advance(1);
        Expect.same("time", t.whole(0), 107);
        Expect.same("undo()", t.undo(), 1);
        Expect.same("time", t.whole(0), 106);
        Expect.same("undo()", t.undo(), 0);
        Expect.same("time", t.whole(0), 6);
    }

    /** A tour on its way through many states, each of which undo() brings back whole. */
    private static void undoBringsBackAll() {
        CrateTour t = Scenes.nestedCrates();
        t.addCourier(0);
        List<Expect.Call> calls = new ArrayList<>(List.of(
                () -> t.setClimate(0, 26, 47), () -> t.advance(30), () -> t.open(0), () -> t.advance(10),
                () -> t.open(1), () -> t.takeOut(2), () -> t.unpack(0), () -> t.close(1), () -> t.takeOut(1),
                () -> t.nest(2, 0), () -> t.pack(0, 0), () -> t.close(0), () -> t.send(0, 1, 0),
                () -> t.advance(10), () -> t.addCrate(0, 3), () -> t.addWork(1, 3, 9, 9, true),
                () -> t.advance(20), () -> t.setWay(1, 2, 25), () -> t.send(0, 2, 0), () -> t.addVenue(1, 30, 1, 1),
                () -> t.addCourier(3), () -> t.advance(24), () -> t.advance(1), () -> t.setWayRate(7),
                () -> t.setLender(0, 0, 3), () -> t.advance(240), () -> t.runCommands()));
        for (int i = 0; i < calls.size(); i++) {
            Expect.undoable("call " + i, t, calls.get(i));
        }
        List<List<Integer>> views = new ArrayList<>();
        for (int i = 0; i < 4; i++) {
            views.add(Scenes.view(t));
            t.advance(24 + i);
        }
        for (int i = 3; i >= 0; i--) {
            Expect.same("undo()", t.undo(), i);
            Expect.isTrue("undo() brings back state " + i, views.get(i).equals(Scenes.view(t)));
        }
    }

    /** Ways, lenders and the rate for ways are told by no value, but undo() brings them back too. */
    private static void undoOfWhatIsNotTold() {
        CrateTour t = Scenes.closedCrate();
        t.setLender(0, 3, 2);
        Expect.same("refusal, barred", t.refusal(0, 1, NONE), 6);
        t.undo();
        Expect.same("refusal, not barred", t.refusal(0, 1, NONE), 0);
        t.setWay(0, 1, 0);
        Expect.same("refusal without a way", t.refusal(0, 1, NONE), 4);
        t.undo();
        Expect.same("refusal with a way", t.refusal(0, 1, NONE), 0);
        t.setWayRate(5000);
        t.undo();
        t.send(0, 1, NONE);
        t.advance(24);
        Expect.same("premium at the first rate: 200000 * 100 / 10000", t.work(0, 7), 2000);

        // A crate has the climate of its earlier closing behind undo().
        CrateTour twice = Scenes.closedCrate();
        twice.open(0);
        twice.setClimate(0, 30, 70);
        twice.close(0);
        Expect.same("temperature in the crate", twice.crate(0, 6), 30);
        twice.undo();
        twice.undo();
        Expect.same("temperature in the open crate", twice.crate(0, 6), 20);
        twice.undo();
        Expect.row("the crate closed as before", Scenes.crate(twice, 0),
                2, 0, -1, 0, -1, -1, 20, 50, 0, 0, 1, 0, 200_000, 1);

        // A crate on its way remembers its courier through undo().
        CrateTour other = Scenes.closedCrate();
        other.addCourier(0);
        other.send(0, 1, 0);
        other.advance(30);
        other.send(0, 0, NONE);
        other.undo();
        other.undo();
        Expect.same("courier on the way again", other.courier(0), NONE);
        Expect.same("advance(30)", other.advance(30), 1);
        Expect.same("courier there again", other.courier(0), 1);
    }

    private static void whatSavesNothing() {
        CrateTour t = Scenes.closedCrate();
        t.addCourier(0);
        List<Expect.Call> calls = new ArrayList<>(List.of(
                () -> t.refusal(0, 1, 0), () -> t.crate(0, 9), () -> t.work(0, 5), () -> t.noted(0, 0),
                () -> t.venue(0, 4), () -> t.courier(0), () -> t.whole(0), () -> t.readyAt(0),
                () -> t.allReadyAt(0), () -> t.bestVenue(0, 0), () -> t.clearCommands(), () -> t.digest()));
        t.undo();
        t.undo();
        t.addCourier(0);
        for (int i = 0; i < calls.size(); i++) {
            long before = t.digest();
            calls.get(i).run();
            Expect.same("digest behind call " + i + " that saves nothing", t.digest(), before);
        }
        Expect.same("states saved", Scenes.saved(t, 0), 3);
        t.type(' ');
        Expect.same("states saved behind type()", Scenes.saved(t, 1), 3);
        t.undo();
        Expect.same("states saved behind undo()", Scenes.saved(t, 1), 2);
    }

    private static void refusedCallsSaveNothing() {
        CrateTour t = new CrateTour();
        t.addVenue(20, 50, 0, 0);
        List<Expect.Call> calls = new ArrayList<>(List.of(
                () -> t.addVenue(99, 0, 0, 0), () -> t.setClimate(1, 20, 50), () -> t.setWay(0, 0, 1),
                () -> t.setLender(6, 0, 0), () -> t.setWayRate(-1), () -> t.addCourier(1),
                () -> t.addCrate(0, 0), () -> t.addWork(0, 0, 0, 0, false), () -> t.open(0), () -> t.close(0),
                () -> t.nest(0, 0), () -> t.takeOut(0), () -> t.pack(0, 0), () -> t.unpack(0),
                () -> t.send(0, 0, NONE), () -> t.advance(0)));
        for (int i = 0; i < calls.size(); i++) {
            try {
                calls.get(i).run();
                Expect.fail("refused call " + i + " was not refused");
            } catch (RuntimeException e) {
                Expect.same("states saved behind refused call " + i, Scenes.saved(t, 0), 1);
            }
        }
        Expect.same("undo()", t.undo(), 0);
        Expect.same("venues", t.whole(1), 0);
    }

    private static void undoLeavesTheText() {
        CrateTour t = new CrateTour();
        Scenes.type(t, "wait 1;");
        t.advance(3);
        Scenes.type(t, "wait 2;");
        t.undo();
        Expect.same("run of the whole text", t.runCommands(), 2);
        Expect.same("time", t.whole(0), 3);
        t.clearCommands();
        t.undo();
        Expect.same("time", t.whole(0), 0);
        Expect.same("length of the text", t.clearCommands(), 0);
    }

    private static void digestOfATourInUse() {
        CrateTour t = Scenes.nestedCrates();
        t.addCourier(0);
        t.addCourier(2);
        t.addWork(1, 4, 12_345, 3, true);
        t.send(0, 1, 0);
        Scenes.type(t, "wait 3;");
        Expect.same("digest on the way", t.digest(), Scenes.digest(t, 4, 7));
        t.advance(240);
        t.undo();
        Expect.same("digest behind undo()", t.digest(), Scenes.digest(t, 3, 7));
        t.advance(240);
        t.clearCommands();
        Expect.same("digest behind days", t.digest(), Scenes.digest(t, 4, 0));
        Expect.same("digest again", t.digest(), Scenes.digest(t, 4, 0));
        t.open(0);
        Expect.same("digest behind open()", t.digest(), Scenes.digest(t, 4, 0));

        CrateTour small = new CrateTour();
        small.addVenue(20, 50, 10, 99);
        long h = 43003;
        long[] values = {1, 0, 0, 1, 0, 0, 0, 0, 0, 0, 0, 0, 20, 50, 10, 99, 0, 0, 0, 0, 0};
        for (long v : values) {
            h = 31 * h + v;
        }
        Expect.same("digest of a tour with a venue", small.digest(), h);
    }

    private static void digestOfAFullTour() {
        CrateTour t = new CrateTour();
        for (int i = 0; i < 8; i++) {
            t.addVenue(10 + i, 40 + i, 100 + i, 10_000_000);
        }
        for (int i = 0; i < 12; i++) {
            t.addCrate(i % 8, 1 + i % 4);
        }
        for (int i = 0; i < 16; i++) {
            t.addWork(i % 8, i % 6, 1_000_000 - i, 20, false);
            if (i < 12) {
                t.pack(i, i);
                t.close(i);
            }
        }
        for (int i = 0; i < 4; i++) {
            t.addCourier(7 - i);
            t.setWay(7 - i, i, 100);
            t.send(7 - i, i, i);
        }
        Expect.same("digest", t.digest(), Scenes.digest(t, 4, 0));
        t.advance(99);
        Expect.same("digest at 99", t.digest(), Scenes.digest(t, 4, 0));
        t.advance(1);
        Expect.same("digest at 100", t.digest(), Scenes.digest(t, 4, 0));
        t.advance(240);
        Expect.same("digest at 340", t.digest(), Scenes.digest(t, 4, 0));
    }
}
