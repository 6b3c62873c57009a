/** Promises 10 to 15: each sentence that names a boundary, in a test of its own, with the document's words. */
public final class BoundsDeedsTest {
    private static final int LOW = Twin.LOW;
    private static final int HIGH = Twin.HIGH;
    private static final int NONE = CrateTour.NONE;

    public static void main(String[] args) {
        Expect.all(BoundsDeedsTest.class);
        Expect.done("BoundsDeedsTest");
    }

    /** "if there is no such crate" */
    private static void openOfNoCrate() {
        Twin.refuses("open", Expect.INDEX, Scenes::busy, CrateTour::open, -1, 10, 12, LOW, HIGH);
        Twin.refuses("open", Expect.INDEX, Scenes::full, CrateTour::open, -1, 12);
        CrateTour t = Scenes.full();
        t.close(0);
        t.close(11);
        Expect.same("open(0), the first one", t.open(0), 0);
        Expect.same("open(11), the last one", t.open(11), 0);
    }

    /** "if it is open": in no crate, and in an open one. */
    private static void openOfAnOpenCrate() {
        Twin.refuses("open", Expect.STATE, Scenes::busy, CrateTour::open, 2, 4, 7, 9);
    }

    /** "not within reach": in a closed crate at a venue, on its way, and in one on its way. */
    private static void openNotWithinReach() {
        Twin.refuses("open", Expect.STATE, Scenes::busy, CrateTour::open, 1, 5, 6);
        Expect.same("open(0) that is in none", Scenes.busy().open(0), 1);
        Expect.same("open(3) in an open one", Scenes.busy().open(3), 1);
    }

    /** A closed crate in a closed one in an open one is not within reach either. */
    private static void openNotWithinReachTwoDeep() {
        Twin.refuses("open(1), two deep", Expect.STATE, BoundsDeedsTest::zeroInNine, t -> t.open(1));
        CrateTour t = zeroInNine();
        t.open(0);
        Expect.same("open(1) when crate 0 is open", t.open(1), 1);
    }

    /** Crate 0 with crate 1 in it, both closed, in the open crate 9. */
    private static CrateTour zeroInNine() {
        CrateTour t = Scenes.busy();
        t.nest(0, 9);
        return t;
    }

    /** "or may not be opened yet": crate 8 may be from 61 on, which it waits for since 45. */
    private static void openNotYet() {
        Twin.refuses("open(8) at 50", Expect.STATE, Scenes::busy, t -> t.open(8));
        Twin.refuses("open(8) at 60", Expect.STATE, () -> advanced(10), t -> t.open(8));
        Expect.same("open(8) at 61", advanced(11).open(8), 0);
        Expect.same("open(8) at 62", advanced(12).open(8), 0);
        Expect.same("open(8) at 290", advanced(240).open(8), 0);
    }

    private static CrateTour advanced(int hours) {
        CrateTour t = Scenes.busy();
        t.advance(hours);
        return t;
    }

    /** "floor(insulation * (4 * |t - T| + |h - H|) / 10) hours", from none to the most that there can be. */
    private static void openBehindTheHoursNeeded() {
        // Insulation, climate in the crate, climate of the venue, hours.
        int[][] cases = {{1, 20, 50, 20, 50, 0}, {1, 20, 50, 20, 59, 0}, {1, 20, 50, 20, 41, 0},
            {1, 20, 50, 20, 60, 1}, {1, 20, 50, 20, 40, 1}, {1, 20, 50, 20, 69, 1}, {1, 20, 50, 20, 70, 2},
            {1, 20, 50, 22, 51, 0}, {1, 20, 50, 22, 52, 1}, {1, 20, 50, 18, 52, 1}, {1, 20, 50, 18, 48, 1},
            {3, 20, 50, 20, 53, 0}, {3, 20, 50, 20, 54, 1}, {4, 20, 50, 20, 52, 0}, {4, 20, 50, 20, 53, 1},
            {4, 0, 50, 0, 52, 0}, {2, -1, 50, 1, 50, 1}, {2, 1, 50, -1, 52, 2}, {3, -10, 20, 40, 90, 81},
            {4, -10, 20, 40, 90, 108}, {4, 40, 90, -10, 20, 108}, {4, -10, 90, 40, 20, 108}};
        for (int[] n : cases) {
            String what = " of " + java.util.Arrays.toString(n);
            Expect.same("hours needed" + what, waiting(n, 0).crate(0, 9), n[5]);
            Expect.same("open(0) in time" + what, waiting(n, n[5]).open(0), 0);
            if (n[5] > 0) {
                Twin.refuses("open(0) an hour before" + what, Expect.STATE, () -> waiting(n, n[5] - 1),
                        t -> t.open(0));
            }
        }
    }

    /** A crate closed at 30 in one climate, and some hours in another one. */
    private static CrateTour waiting(int[] n, int hours) {
        CrateTour t = new CrateTour();
        t.addVenue(n[1], n[2], 0, 0);
        t.addCrate(0, n[0]);
        t.advance(30);
        t.close(0);
        t.setClimate(0, n[3], n[4]);
        if (hours > 0) {
            t.advance(hours);
        }
        return t;
    }

    /** "Both are looked at with the climates as they are then" */
    private static void openByTheClimateOfThen() {
        CrateTour t = Scenes.busy();
        t.setClimate(1, 10, 40);
        Expect.same("open(8) in the climate that is in it", t.open(8), 0);
        t.undo();
        t.setClimate(1, 10, 65);
        Expect.same("hours needed: 2 * 25 / 10", t.crate(8, 9), 5);
        Expect.same("open(8) in time", t.open(8), 0);
        t.undo();
        t.setClimate(1, 10, 70);
        Expect.raises("open(8) an hour too soon", Expect.STATE, () -> t.open(8));
    }

    /** "for all closed crates that are directly in it, the time since which they wait becomes the present one" */
    private static void openLetsThoseDirectlyInItWait() {
        CrateTour t = Scenes.busy();
        t.open(0);
        Expect.same("crate 1, directly in it", t.crate(1, 8), 50);
        Expect.same("crate 3, in another one", t.crate(3, 8), 0);
        Expect.same("crate 8, in none", t.crate(8, 8), 45);
        CrateTour deep = Scenes.nestedCrates();
        deep.advance(9);
        deep.open(0);
        Expect.same("crate 1, directly in it", deep.crate(1, 8), 9);
        Expect.same("crate 2, in that", deep.crate(2, 8), 0);
    }

    /** "numbered from 0": the first and the last crate in another one are looked at like all others. */
    private static void firstAndLastCrateInAnotherOne() {
        for (int inner : new int[] {0, 11}) {
            CrateTour t = Scenes.threeVenues();
            for (int i = 0; i < 12; i++) {
                t.addCrate(0, 1);
            }
            t.close(inner);
            Expect.same("nest(" + inner + ", 5)", t.nest(inner, 5), 1);
            Expect.same("crates below crate 5", t.crate(5, 11), 1);
            t.close(5);
            t.advance(7);
            t.open(5);
            Expect.same("crate " + inner + " waits since", t.crate(inner, 8), 7);
            t.open(inner);
            Expect.raises("close(5) around an open one", Expect.STATE, () -> t.close(5));
            t.close(inner);
            Expect.same("close(5) around a closed one", t.close(5), 0);
        }
    }

    /** "Returns the number of works that are directly in it": none, all, and not those below. */
    private static void openReturnsWorksDirectlyInIt() {
        Expect.same("open(0) with none", packed(0).open(0), 0);
        Expect.same("open(0) with one", packed(1).open(0), 1);
        Expect.same("open(0) with all", packed(16).open(0), 16);
        CrateTour t = Scenes.nestedCrates();
        t.open(0);
        t.unpack(0);
        t.close(0);
        Expect.same("open(0) with works below it alone", t.open(0), 0);
    }

    /** A closed crate with so many of the 16 works at venue 0. */
    private static CrateTour packed(int count) {
        CrateTour t = Scenes.threeVenues();
        t.addCrate(0, 1);
        t.addCrate(0, 1);
        for (int i = 0; i < 16; i++) {
            t.addWork(0, 0, 1, 20, false);
            if (i < count) {
                t.pack(i, 0);
            }
        }
        t.close(0);
        return t;
    }

    private static void openIsUndoable() {
        Twin.isUndoable("open(0)", Scenes::busy, t -> t.open(0), 1);
        Twin.isUndoable("open(3)", Scenes::busy, t -> t.open(3), 1);
    }

    /** "if there is no such crate" */
    private static void closeOfNoCrate() {
        Twin.refuses("close", Expect.INDEX, Scenes::busy, CrateTour::close, -1, 10, 12, LOW, HIGH);
        Twin.refuses("close", Expect.INDEX, Scenes::full, CrateTour::close, -1, 12);
        Expect.same("close(0), the first one", Scenes.full().close(0), 0);
        Expect.same("close(11), the last one", Scenes.full().close(11), 0);
    }

    /** "if it is closed": in none, and in an open one. */
    private static void closeOfAClosedCrate() {
        Twin.refuses("close", Expect.STATE, Scenes::busy, CrateTour::close, 0, 3, 8);
    }

    /** "not within reach": such a crate is closed always, for an open one keeps the one around it open. */
    private static void closeNotWithinReach() {
        Twin.refuses("close", Expect.STATE, Scenes::busy, CrateTour::close, 1, 5, 6);
        for (int crate = 0; crate < 10; crate++) {
            CrateTour t = Scenes.busy();
            Expect.isTrue("crate " + crate + " is closed or within reach",
                    t.crate(crate, 1) == 0 || t.crate(crate, 13) == 1);
        }
    }

    /** "or a crate directly in it is open": and not if that is closed. */
    private static void closeAroundAnOpenCrate() {
        Twin.refuses("close(2)", Expect.STATE, Scenes::busy, t -> t.close(2));
        CrateTour t = Scenes.busy();
        Expect.same("close(4) in it", t.close(4), 1);
        Expect.same("close(2) around closed ones", t.close(2), 3);
        CrateTour emptied = Scenes.busy();
        emptied.close(4);
        emptied.takeOut(4);
        emptied.open(4);
        Expect.same("close(2) when the open one is out of it", emptied.close(2), 2);
    }

    /** "the climate in it becomes that of the venue, and it waits since now": also at the ends of the climates. */
    private static void closeTakesClimateAndTime() {
        int[][] climates = {{-10, 20}, {40, 90}, {0, 20}};
        for (int[] n : climates) {
            CrateTour t = Scenes.busy();
            t.setClimate(0, n[0], n[1]);
            t.close(9);
            Expect.row("crate 9", Scenes.crate(t, 9), 2, 0, NONE, 0, NONE, NONE, n[0], n[1], 50, 0, 0, 0, 0, 1);
        }
        CrateTour t = new CrateTour();
        t.addVenue(20, 50, 0, 0);
        t.addCrate(0, 1);
        t.close(0);
        Expect.same("time since which it waits, at time 0", t.crate(0, 8), 0);
    }

    /** "Returns the number of works in it or below it": none, all, and those below. */
    private static void closeReturnsWorksInItOrBelow() {
        Expect.same("close(9) with none", Scenes.busy().close(9), 0);
        CrateTour t = packed(15);
        t.nest(0, 1);
        t.pack(15, 1);
        Expect.same("close(1) with all, one deep and two deep", t.close(1), 16);
    }

    private static void closeIsUndoable() {
        Twin.isUndoable("close(9)", Scenes::busy, t -> t.close(9), 0);
        Twin.isUndoable("close(4)", Scenes::busy, t -> t.close(4), 1);
    }

    /** "if there is no such crate or into" */
    private static void nestOfNoCrate() {
        int[] none = {-1, 10, 12, LOW, HIGH};
        Twin.refuses("nest: crate", Expect.INDEX, Scenes::busy, (t, value) -> t.nest(value, 9), none);
        Twin.refuses("nest: into", Expect.INDEX, Scenes::busy, (t, value) -> t.nest(0, value), none);
        Expect.same("nest(0, 9), the first into the last", Scenes.busy().nest(0, 9), 1);
    }

    /** Of no crate and what cannot be, the number comes first: both the same, an open one, one at another venue. */
    private static void nestOfNoCrateAndNotNow() {
        Twin.refuses("nest of both", Expect.INDEX, Scenes::busy, (t, value) -> t.nest(value, value), -1, 10);
        Twin.refuses("nest of an open one", Expect.INDEX, Scenes::busy, (t, value) -> t.nest(2, value), -1, 10);
        Twin.refuses("nest into a closed one", Expect.INDEX, Scenes::busy, (t, value) -> t.nest(value, 0), -1, 10);
    }

    /** "if both are the same": open and closed. */
    private static void nestOfBothTheSame() {
        Twin.refuses("nest of both", Expect.STATE, Scenes::busy, (t, value) -> t.nest(value, value), 0, 1, 2, 5, 9);
    }

    /** "the crate is open" */
    private static void nestOfAnOpenCrate() {
        Twin.refuses("nest(9, 2)", Expect.STATE, Scenes::busy, t -> t.nest(9, 2));
        CrateTour t = Scenes.busy();
        t.close(9);
        Expect.same("nest(9, 2) when it is closed", t.nest(9, 2), 3);
    }

    /** "in a crate": in another one, and in this one already. */
    private static void nestOfOneInACrate() {
        Twin.refuses("nest(3, ..)", Expect.STATE, Scenes::busy, (t, into) -> t.nest(3, into), 9, 2, 4);
        CrateTour t = Scenes.busy();
        t.takeOut(3);
        Expect.same("nest(3, 9) when it is out", t.nest(3, 9), 1);
    }

    /** "or on its way": into a crate at its goal and into one where it came from. */
    private static void nestOfOneOnItsWay() {
        Twin.refuses("nest(5, ..)", Expect.STATE, Scenes::busy, (t, into) -> t.nest(5, into), 7, 9);
        Twin.refuses("nest(5, 7) at 74", Expect.STATE, () -> advanced(24), t -> t.nest(5, 7));
        Expect.same("nest(5, 7) at 75, when it has arrived", advanced(25).nest(5, 7), 1);
    }

    /** "or into is closed": in an open one, and in none. */
    private static void nestIntoAClosedCrate() {
        Twin.refuses("nest(0, 3)", Expect.STATE, Scenes::busy, t -> t.nest(0, 3));
        Twin.refuses("nest(9, 0)", Expect.STATE, BoundsDeedsTest::nineClosed, t -> t.nest(9, 0));
        CrateTour t = nineClosed();
        t.open(0);
        Expect.same("nest(9, 0) when it is open", t.nest(9, 0), 2);
    }

    private static CrateTour nineClosed() {
        CrateTour t = Scenes.busy();
        t.close(9);
        return t;
    }

    /** "not within reach": in a closed one, in itself, on its way. */
    private static void nestNotWithinReach() {
        Twin.refuses("nest(0, ..)", Expect.STATE, Scenes::busy, (t, into) -> t.nest(0, into), 1, 5, 6);
        Expect.same("nest(0, 4) into an open one in an open one", Scenes.busy().nest(0, 4), 1);
    }

    /** "or at another venue" */
    private static void nestAtAnotherVenue() {
        Twin.refuses("nest(0, 7)", Expect.STATE, Scenes::busy, t -> t.nest(0, 7));
        Twin.refuses("nest(8, ..)", Expect.STATE, Scenes::busy, (t, into) -> t.nest(8, into), 9, 2, 4);
        Expect.same("nest(8, 7) at the same one", Scenes.busy().nest(8, 7), 1);
    }

    /** "Returns the number of crates that are directly in that one then": from the first to all others. */
    private static void nestReturnsCratesDirectlyInIt() {
        CrateTour t = Scenes.threeVenues();
        for (int i = 0; i < 12; i++) {
            t.addCrate(0, 1);
        }
        for (int i = 1; i < 12; i++) {
            t.close(i);
            Expect.same("nest(" + i + ", 0)", t.nest(i, 0), i);
        }
        CrateTour deep = Scenes.nestedCrates();
        deep.addCrate(0, 1);
        Expect.same("nest(0, 3), with two below it", deep.nest(0, 3), 1);
    }

    /** "Puts a crate into another one": it waits as it did, and stays at the venue. */
    private static void nestLeavesTheCrateAsItIs() {
        CrateTour t = Scenes.busy();
        t.nest(0, 4);
        Expect.row("crate 0", Scenes.crate(t, 0), 2, 0, 4, 0, NONE, NONE, 20, 50, 0, 0, 2, 1, 2001, 1);
        Expect.row("crate 1 in it", Scenes.crate(t, 1), 2, 0, 0, 0, NONE, NONE, 20, 50, 0, 0, 1, 0, 1001, 0);
        CrateTour later = Scenes.busy();
        later.advance(1);
        later.nest(8, 7);
        Expect.same("crate 8 waits since", later.crate(8, 8), 45);
    }

    private static void nestIsUndoable() {
        Twin.isUndoable("nest(0, 9)", Scenes::busy, t -> t.nest(0, 9), 1);
        Twin.isUndoable("nest(0, 2)", Scenes::busy, t -> t.nest(0, 2), 3);
    }

    /** "if there is no such crate" */
    private static void takeOutOfNoCrate() {
        Twin.refuses("takeOut", Expect.INDEX, Scenes::busy, CrateTour::takeOut, -1, 10, 12, LOW, HIGH);
        Twin.refuses("takeOut", Expect.INDEX, Scenes::full, CrateTour::takeOut, -1, 12);
    }

    /** "if it is in no crate": closed, open, on its way. */
    private static void takeOutOfNone() {
        Twin.refuses("takeOut", Expect.STATE, Scenes::busy, CrateTour::takeOut, 0, 2, 5, 7, 8, 9);
    }

    /** "open" */
    private static void takeOutOfAnOpenCrate() {
        Twin.refuses("takeOut(4)", Expect.STATE, Scenes::busy, t -> t.takeOut(4));
        CrateTour t = Scenes.busy();
        t.close(4);
        Expect.same("takeOut(4) when it is closed", t.takeOut(4), 2);
    }

    /** "or not within reach": in a closed one at a venue, in one on its way, and two deep. */
    private static void takeOutNotWithinReach() {
        Twin.refuses("takeOut", Expect.STATE, Scenes::busy, CrateTour::takeOut, 1, 6);
        Twin.refuses("takeOut(1), two deep", Expect.STATE, BoundsDeedsTest::zeroInNine, t -> t.takeOut(1));
        CrateTour t = Scenes.busy();
        t.open(0);
        Expect.same("takeOut(1) when crate 0 is open", t.takeOut(1), 0);
    }

    /** "it is at the venue then, in no crate": of the outermost crate, from two deep too; it waits as it did. */
    private static void takeOutIsAtTheVenue() {
        CrateTour t = Scenes.nestedCrates();
        t.advance(4);
        t.open(0);
        t.advance(4);
        t.open(1);
        t.advance(1);
        Expect.same("takeOut(2)", t.takeOut(2), 1);
        Expect.row("crate 2", Scenes.crate(t, 2), 1, 0, NONE, 0, NONE, NONE, 20, 50, 8, 0, 1, 0, 3, 1);
    }

    private static void takeOutIsUndoable() {
        Twin.isUndoable("takeOut(3)", Scenes::busy, t -> t.takeOut(3), 2);
    }

    /** "if there is no such work or crate" */
    private static void packOfNoWorkOrCrate() {
        Twin.refuses("pack: work", Expect.INDEX, Scenes::busy, (t, work) -> t.pack(work, 9), -1, 9, 16, LOW, HIGH);
        Twin.refuses("pack: crate", Expect.INDEX, Scenes::busy, (t, no) -> t.pack(7, no), -1, 10, 12, LOW, HIGH);
        Expect.same("pack(8, 7), the last work", Scenes.busy().pack(8, 7), 1);
        Expect.same("pack(15, 7), the last of all", Scenes.full().pack(15, 7), 1);
    }

    /** Of no work or crate and what cannot be, the number comes first. */
    private static void packOfNoneAndNotNow() {
        Twin.refuses("pack of one in a crate", Expect.INDEX, Scenes::busy, (t, no) -> t.pack(0, no), -1, 10);
        Twin.refuses("pack into a closed one", Expect.INDEX, Scenes::busy, (t, work) -> t.pack(work, 0), -1, 9);
        Twin.refuses("pack of both", Expect.INDEX, Scenes::busy, (t, no) -> t.pack(no, no), -1, 16);
    }

    /** "if the work is in a crate": in another one, in this one, in one out of reach. */
    private static void packOfAPackedWork() {
        Twin.refuses("pack(.., 9)", Expect.STATE, Scenes::busy, (t, work) -> t.pack(work, 9), 0, 1, 2, 3, 4, 5, 6);
        Twin.refuses("pack(2, 2)", Expect.STATE, Scenes::busy, t -> t.pack(2, 2));
        CrateTour t = Scenes.busy();
        t.unpack(2);
        Expect.same("pack(2, 9) when it is unpacked", t.pack(2, 9), 1);
    }

    /** "or the crate is closed": in none, and in an open one. */
    private static void packIntoAClosedCrate() {
        Twin.refuses("pack(7, ..)", Expect.STATE, Scenes::busy, (t, crate) -> t.pack(7, crate), 0, 3);
        CrateTour t = Scenes.busy();
        t.open(3);
        Expect.same("pack(7, 3) when it is open", t.pack(7, 3), 2);
    }

    /** "not within reach": in a closed one, on its way, in one on its way. */
    private static void packNotWithinReach() {
        Twin.refuses("pack(7, ..)", Expect.STATE, Scenes::busy, (t, crate) -> t.pack(7, crate), 1, 5, 6);
        Expect.same("pack(7, 4) into an open one in an open one", Scenes.busy().pack(7, 4), 2);
    }

    /** "or at another venue" */
    private static void packAtAnotherVenue() {
        Twin.refuses("pack(7, 7)", Expect.STATE, Scenes::busy, t -> t.pack(7, 7));
        Twin.refuses("pack(8, ..)", Expect.STATE, Scenes::busy, (t, crate) -> t.pack(8, crate), 2, 4, 9);
        Expect.same("pack(7, 9) at the same one", Scenes.busy().pack(7, 9), 1);
    }

    /** "Returns the number of works that are directly in the crate then": 1 to 16, without those below. */
    private static void packReturnsWorksDirectlyInIt() {
        CrateTour t = packed(0);
        t.open(0);
        for (int i = 0; i < 16; i++) {
            Expect.same("pack(" + i + ", 0)", t.pack(i, 0), i + 1);
        }
        Expect.same("pack(7, 2), with two works below it", Scenes.busy().pack(7, 2), 2);
    }

    private static void packIsUndoable() {
        Twin.isUndoable("pack(7, 9)", Scenes::busy, t -> t.pack(7, 9), 1);
        Twin.isUndoable("pack(7, 4)", Scenes::busy, t -> t.pack(7, 4), 2);
    }

    /** "if there is no such work" */
    private static void unpackOfNoWork() {
        Twin.refuses("unpack", Expect.INDEX, Scenes::busy, CrateTour::unpack, -1, 9, 16, LOW, HIGH);
        Twin.refuses("unpack", Expect.INDEX, Scenes::full, CrateTour::unpack, -1, 16);
        CrateTour t = Scenes.full();
        t.pack(15, 7);
        Expect.same("unpack(15), the last of all", t.unpack(15), 7);
    }

    /** "if it is in no crate" */
    private static void unpackOfNone() {
        Twin.refuses("unpack", Expect.STATE, Scenes::busy, CrateTour::unpack, 7, 8);
    }

    /** "or its crate is closed": in none, and in an open one. */
    private static void unpackOfAClosedCrate() {
        Twin.refuses("unpack", Expect.STATE, Scenes::busy, CrateTour::unpack, 0, 3);
        CrateTour t = Scenes.busy();
        t.open(0);
        Expect.same("unpack(0) when it is open", t.unpack(0), 0);
    }

    /** "or not within reach": in a closed one, on its way, in one on its way. */
    private static void unpackNotWithinReach() {
        Twin.refuses("unpack", Expect.STATE, Scenes::busy, CrateTour::unpack, 1, 5, 6);
        Expect.same("unpack(4) of an open one in an open one", Scenes.busy().unpack(4), 0);
    }

    /** "Returns the venue": the first and the last one. */
    private static void unpackReturnsTheVenue() {
        Expect.same("unpack(2)", Scenes.busy().unpack(2), 0);
        CrateTour t = Scenes.full();
        t.pack(15, 7);
        Expect.same("unpack(15)", t.unpack(15), 7);
        Expect.same("venue of work 15", t.work(15, 5), 7);
    }

    private static void unpackIsUndoable() {
        Twin.isUndoable("unpack(2)", Scenes::busy, t -> t.unpack(2), 0);
        Twin.isUndoable("unpack(4)", Scenes::busy, t -> t.unpack(4), 0);
    }
}
