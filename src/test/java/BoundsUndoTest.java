import java.math.BigInteger;
import java.util.ArrayList;
import java.util.List;

/** Promises 31 and 32: each sentence that names a boundary, in a test of its own, with the document's words. */
public final class BoundsUndoTest {
    private static final int NONE = CrateTour.NONE;

    public static void main(String[] args) {
        Expect.all(BoundsUndoTest.class);
        Expect.done("BoundsUndoTest");
    }

    // ---- undo

    /** "if the stack is empty": on a new tour, and when all has been undone. */
    private static void undoOfAnEmptyStack() {
        Twin.refuses("undo() of a new tour", Expect.STATE, CrateTour::new, CrateTour::undo);
        Twin.refuses("undo() behind all", Expect.STATE, () -> undone(Scenes.busy(), 2), CrateTour::undo);
        Twin.refuses("undo() behind four", Expect.STATE, () -> undone(Scenes.full(), 4), CrateTour::undo);
    }

    private static CrateTour undone(CrateTour t, int times) {
        for (int i = 0; i < times; i++) {
            t.undo();
        }
        return t;
    }

    /** "Returns the number of states that are left on the stack": from 3 to none. */
    private static void undoReturnsWhatIsLeft() {
        CrateTour t = Scenes.full();
        for (int left = 3; left >= 0; left--) {
            Expect.same("undo()", t.undo(), left);
        }
        CrateTour one = new CrateTour();
        one.advance(1);
        Expect.same("undo() of the only one", one.undo(), 0);
    }

    /** "The stack keeps the latest 4 saved states and drops older ones": behind 1 to 9 calls. */
    private static void stackKeepsFour() {
        for (int calls = 1; calls <= 9; calls++) {
            CrateTour t = new CrateTour();
            for (int i = 0; i < calls; i++) {
                t.advance(1);
            }
            int kept = Math.min(calls, 4);
            for (int i = 1; i <= kept; i++) {
                Expect.same("undo() behind " + calls + " calls", t.undo(), kept - i);
                Expect.same("time behind it", t.whole(0), calls - i);
            }
            Expect.raises("undo() behind all of " + calls + " calls", Expect.STATE, t::undo);
            Expect.same("time behind it", t.whole(0), calls - kept);
        }
    }

    /** "removes it from the undo stack": what is saved then stands in its place, and undo() saves nothing. */
    private static void undoRemovesTheState() {
        CrateTour t = new CrateTour();
        for (int i = 0; i < 4; i++) {
            t.advance(1);
        }
        Expect.same("first undo()", t.undo(), 3);
        Expect.same("second undo()", t.undo(), 2);
        t.advance(100);
        Expect.same("undo() of the new call", t.undo(), 2);
        Expect.same("time", t.whole(0), 2);
        Expect.same("undo() of an older one", t.undo(), 1);
        Expect.same("time", t.whole(0), 1);
        for (int i = 0; i < 4; i++) {
            t.advance(10);
        }
        Expect.same("undo() of a stack that is full again", t.undo(), 3);
        undone(t, 3);
        Expect.same("time of the oldest one that is kept", t.whole(0), 1);
    }

    /** "saves the whole state", "The saved state is the one from before the call": four back, each one whole. */
    private static void undoRestoresTheWholeState() {
        List<Twin.Ask> calls = List.of(t -> t.open(0), t -> t.setClimate(0, 25, 60), t -> t.close(0),
                t -> t.setClimate(0, 20, 50), t -> t.send(0, 1, 0), t -> t.advance(24),
                t -> t.takeOut(3), t -> t.nest(3, 9), t -> t.open(3), t -> t.unpack(3), t -> t.pack(7, 9),
                t -> t.setLender(5, 3, 77), t -> t.setWay(0, 1, 0), t -> t.setWayRate(4321), t -> t.advance(240),
                t -> t.addWork(0, 0, 1, 1, true), t -> t.addCrate(2, 1), t -> t.addCourier(2),
                t -> t.addVenue(1, 21, 1, 1), t -> t.close(4), t -> t.runCommands());
        for (int made = 1; made <= calls.size(); made++) {
            for (int back = 1; back <= Math.min(made, 4); back++) {
                int all = made;
                int times = back;
                Twin.Scene restored = () -> undone(behind(calls, all), times);
                Twin.Scene never = () -> behind(calls, all - times);
                Expect.isTrue("undo() " + back + " times behind " + made + " calls",
                        future(restored).equals(future(never)));
            }
        }
    }

    private static CrateTour behind(List<Twin.Ask> calls, int count) {
        CrateTour t = Scenes.busy();
        for (int i = 0; i < count; i++) {
            calls.get(i).of(t);
        }
        return t;
    }

    /** All values now, and all that comes of going on; how many states are saved is left out. */
    private static List<Long> future(Twin.Scene scene) {
        List<Long> row = new ArrayList<>(values(scene));
        row.addAll(Twin.settings(scene.make()));
        row.addAll(values(() -> {
            CrateTour t = scene.make();
            t.advance(240);
            return t;
        }));
        return row;
    }

    /** "but the command text": it is neither saved nor restored, typed before or behind the call. */
    private static void undoLeavesTheText() {
        CrateTour t = new CrateTour();
        t.advance(1);
        Scenes.type(t, "wait 1;");
        t.advance(1);
        Scenes.type(t, "wait 2;");
        t.undo();
        t.undo();
        Expect.same("runCommands() of both", t.runCommands(), 2);
        Expect.same("time", t.whole(0), 3);
        t.clearCommands();
        t.undo();
        Expect.same("length of the text when it was cleared", t.clearCommands(), 0);
        CrateTour full = Scenes.full();
        undone(full, 4);
        Expect.same("length of a full text", full.clearCommands(), 150);
    }

    /** "Every method that is marked "undoable" saves": one state each, and no other method saves any. */
    private static void whatIsUndoable() {
        List<Twin.Ask> saving = List.of(t -> t.addVenue(20, 50, 0, 0), t -> t.setClimate(0, 20, 50),
                t -> t.setWay(0, 1, 30), t -> t.setLender(0, 0, -10), t -> t.setWayRate(300), t -> t.addCourier(0),
                t -> t.addCrate(0, 1), t -> t.addWork(0, 0, 1, 0, false), t -> t.open(0), t -> t.close(9),
                t -> t.nest(0, 9), t -> t.takeOut(3), t -> t.pack(7, 9), t -> t.unpack(2),
                t -> t.send(0, 1, NONE), t -> t.advance(1), CrateTour::runCommands);
        for (int i = 0; i < saving.size(); i++) {
            CrateTour t = Scenes.busy();
            saving.get(i).of(t);
            Expect.same("undo() behind undoable call " + i, t.undo(), 2);
            saving.get(i).of(t);
            t.advance(1);
            Expect.same("undo() behind undoable call " + i + " and another one", t.undo(), 3);
        }
        List<Twin.Ask> others = List.of(t -> t.refusal(0, 1, NONE), t -> t.crate(0, 0), t -> t.work(0, 0),
                t -> t.noted(0, 0), t -> t.venue(0, 0), t -> t.courier(0), t -> t.whole(0), t -> t.readyAt(0),
                t -> t.allReadyAt(0), t -> t.bestVenue(0, NONE), t -> t.type(' '), CrateTour::clearCommands,
                CrateTour::digest);
        for (int i = 0; i < others.size(); i++) {
            CrateTour t = Scenes.busy();
            others.get(i).of(t);
            Expect.same("undo() behind other call " + i, t.undo(), 1);
        }
    }

    /** "when it ends normally": a call that throws drops no state of a full stack either. */
    private static void refusedCallsOnAFullStack() {
        List<Twin.Ask> refused = List.of(t -> t.addVenue(20, 50, 0, 0), t -> t.setClimate(8, 20, 50),
                t -> t.setWay(0, 0, 30), t -> t.setLender(6, 0, -10), t -> t.setWayRate(-1), t -> t.addCourier(0),
                t -> t.addCrate(0, 1), t -> t.addWork(0, 0, 1, 0, false), t -> t.open(0), t -> t.close(12),
                t -> t.nest(0, 9), t -> t.takeOut(3), t -> t.pack(7, 9), t -> t.unpack(2),
                t -> t.send(0, 1, NONE), t -> t.advance(0));
        for (int i = 0; i < refused.size(); i++) {
            CrateTour t = Scenes.full();
            Twin.Ask call = refused.get(i);
            try {
                call.of(t);
                Expect.fail("refused call " + i + " was not refused");
            } catch (RuntimeException e) {
                Expect.same("undo() behind refused call " + i, t.undo(), 3);
            }
            undone(t, 3);
            Expect.same("digest() four back, behind refused call " + i, t.digest(),
                    undone(Scenes.full(), 4).digest());
        }
    }

    // ---- digest

    /** All values of a digest but the first two; each row is asked of a tour of its own. */
    private static List<Long> values(Twin.Scene scene) {
        List<Long> values = new ArrayList<>();
        CrateTour t = scene.make();
        add(values, Scenes.whole(t));
        int[] count = Scenes.whole(t);
        for (int venue = 0; venue < count[1]; venue++) {
            add(values, Scenes.venue(scene.make(), venue));
        }
        for (int crate = 0; crate < count[2]; crate++) {
            add(values, Scenes.crate(scene.make(), crate));
            add(values, scene.make().allReadyAt(crate));
        }
        for (int work = 0; work < count[3]; work++) {
            add(values, Scenes.work(scene.make(), work));
            add(values, Scenes.noted(scene.make(), work));
            add(values, scene.make().readyAt(work));
        }
        for (int courier = 0; courier < count[4]; courier++) {
            add(values, scene.make().courier(courier));
        }
        return values;
    }

    private static void add(List<Long> values, int... row) {
        for (int value : row) {
            values.add((long) value);
        }
    }

    /** The digest that is due, in whole numbers without an end, cut to 64 bits in the end alone. */
    private static long digest(int saved, int length, List<Long> values) {
        BigInteger h = BigInteger.valueOf(43003);
        List<Long> all = new ArrayList<>(List.of((long) saved, (long) length));
        all.addAll(values);
        for (long v : all) {
            h = h.multiply(BigInteger.valueOf(31)).add(BigInteger.valueOf(v));
        }
        return h.longValue();
    }

    /** "It starts with h = 43003": with none of what can be. */
    private static void digestOfANewTour() {
        List<Long> noughts = new ArrayList<>();
        for (int i = 0; i < 10; i++) {
            noughts.add(0L);
        }
        Twin.tells("digest() of a new tour", CrateTour::new, CrateTour::digest, digest(0, 0, noughts));
    }

    /** "(long arithmetic, overflow wraps)", "in this order": of tours with a part, with much and with all. */
    private static void digestWraps() {
        Twin.Scene venue = () -> {
            CrateTour t = new CrateTour();
            t.addVenue(-10, 20, 500, 10_000_000);
            return t;
        };
        Twin.tells("digest() with a venue", venue, CrateTour::digest, digest(1, 0, values(venue)));
        Twin.tells("digest() with much", Scenes::busy, CrateTour::digest, digest(2, 15, values(Scenes::busy)));
        Twin.tells("digest() with all", Scenes::full, CrateTour::digest, digest(4, 150, values(Scenes::full)));
        Twin.Scene later = () -> {
            CrateTour t = Scenes.full();
            t.close(0);
            t.send(0, 7, 0);
            t.advance(9);
            t.advance(240);
            return t;
        };
        Twin.tells("digest() with all, days later", later, CrateTour::digest, digest(4, 150, values(later)));
    }

    /** "the number of states on the undo stack": none to four. */
    private static void digestOfTheUndoStack() {
        for (int saved = 0; saved <= 5; saved++) {
            CrateTour t = new CrateTour();
            List<Long> values = new ArrayList<>(List.of((long) saved));
            for (int i = 0; i < 9; i++) {
                values.add(0L);
            }
            for (int i = 0; i < saved; i++) {
                t.advance(1);
            }
            Expect.same("digest() with " + saved + " saved", t.digest(), digest(Math.min(saved, 4), 0, values));
        }
    }

    /** "the length of the command text": none to 150; what stands in it is not taken. */
    private static void digestOfTheText() {
        List<Long> noughts = values(CrateTour::new);
        CrateTour t = new CrateTour();
        CrateTour other = new CrateTour();
        for (int length = 0; length <= 150; length++) {
            Expect.same("digest() with a text of " + length, t.digest(), digest(0, length, noughts));
            if (length < 150) {
                t.type('a');
                other.type(127 - length % 100);
            }
        }
        Expect.same("digest() with another text", other.digest(), t.digest());
    }

    /** "whole() of 0 to 9; for each venue venue() of 0 to 8; ..": none is left out, as each changes the digest. */
    private static void digestOfEachPart() {
        List<Long> digests = new ArrayList<>();
        List<Twin.Ask> changes = List.of(t -> 0, t -> t.setClimate(0, 21, 50), t -> t.setClimate(0, 20, 51),
                t -> t.addCourier(0), t -> t.addCourier(1), t -> t.addCrate(0, 1), t -> t.addCrate(0, 2),
                t -> t.addWork(0, 0, 1, 0, false), t -> t.addWork(0, 1, 1, 0, false),
                t -> t.addWork(0, 0, 2, 0, false), t -> t.addWork(0, 0, 1, 1, false),
                t -> t.addWork(0, 0, 1, 0, true), t -> t.addWork(1, 0, 1, 0, false), t -> t.addVenue(20, 50, 0, 0),
                t -> t.addVenue(20, 50, 1, 0), t -> t.addVenue(20, 50, 0, 1), t -> t.open(0), t -> t.close(9),
                t -> t.nest(0, 9), t -> t.nest(0, 2), t -> t.takeOut(3), t -> t.pack(7, 9), t -> t.pack(7, 2),
                t -> t.unpack(2), t -> t.send(0, 1, NONE), t -> t.send(0, 1, 0), t -> t.advance(1),
                t -> t.advance(2), t -> t.runCommands());
        for (int i = 0; i < changes.size(); i++) {
            CrateTour t = Scenes.busy();
            changes.get(i).of(t);
            long digest = t.digest();
            Expect.isTrue("the digest behind change " + i + " is one of its own", !digests.contains(digest));
            digests.add(digest);
        }
    }
}
