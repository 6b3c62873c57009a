/** Promises 10 to 17: what is done. */
public final class DeedsTest {
    private static final int LOW = Integer.MIN_VALUE;
    private static final int HIGH = Integer.MAX_VALUE;
    private static final int NONE = CrateTour.NONE;

    public static void main(String[] args) {
        openWaits();
        openLetsInnerCratesWait();
        openRefusals();
        openAndCloseTwelve();
        closeTakesTheClimate();
        closeRefusals();
        nest();
        nestRefusals();
        takeOut();
        takeOutRefusals();
        pack();
        packRefusals();
        unpack();
        unpackRefusals();
        send();
        sendRefusals();
        advanceMovesCrates();
        advanceEndsDays();
        advancePaysLargePremiums();
        advanceRefusals();
        Expect.done("DeedsTest");
    }

    private static void openWaits() {
        CrateTour t = Scenes.closedCrate();
        t.setClimate(0, 10, 45);
        Expect.same("hours needed: 2 * (40 + 5) / 10", t.crate(0, 9), 9);
        for (int time = 0; time < 9; time++) {
            Expect.refuses("open(0) at " + time, Expect.STATE, t, () -> t.open(0));
            t.advance(1);
        }
        Expect.undoable("open(0) at 9", t, () -> t.open(0));
        Expect.same("crate 0 is open", t.crate(0, 1), 1);
        t.undo();
        t.advance(100);
        Expect.same("open(0) at 109", t.open(0), 1);

        CrateTour other = Scenes.closedCrate();
        other.setClimate(0, 10, 45);
        other.advance(3);
        Expect.refuses("open(0) in another climate", Expect.STATE, other, () -> other.open(0));
        other.setClimate(0, 20, 50);
        Expect.same("open(0) in its own climate", other.open(0), 1);

        int[][] cases = {{1, -10, 20, 40, 90, 27}, {4, -10, 20, 40, 90, 108}, {4, 40, 90, -10, 20, 108},
            {1, 20, 50, 20, 59, 0}, {1, 20, 50, 20, 40, 1}, {3, 20, 50, 21, 50, 1}, {3, 20, 50, 19, 53, 2},
            {2, -1, 50, 1, 50, 1}, {4, 5, 60, 5, 58, 0}, {4, 5, 60, 5, 57, 1}};
        for (int[] n : cases) {
            CrateTour one = new CrateTour();
            one.addVenue(n[1], n[2], 0, 0);
            one.addCrate(0, n[0]);
            one.close(0);
            one.setClimate(0, n[3], n[4]);
            Expect.same("hours needed in " + java.util.Arrays.toString(n), one.crate(0, 9), n[5]);
            if (n[5] > 1) {
                one.advance(n[5] - 1);
            }
            if (n[5] > 0) {
                Expect.refuses("open(0) one hour too soon", Expect.STATE, one, () -> one.open(0));
                one.advance(1);
            }
            Expect.same("open(0) in time", one.open(0), 0);
        }
    }

    private static void openLetsInnerCratesWait() {
        CrateTour t = Scenes.nestedCrates();
        t.addCrate(0, 1);
        t.close(3);
        t.setClimate(0, 20, 55);
        t.advance(7);
        Expect.same("open(0): works directly in it", t.open(0), 1);
        Expect.same("crate 1 waits since", t.crate(1, 8), 7);
        Expect.same("crate 2 waits since", t.crate(2, 8), 0);
        Expect.same("crate 3 waits since", t.crate(3, 8), 0);
        Expect.refuses("open(1) at 7", Expect.STATE, t, () -> t.open(1));
        t.advance(1);
        Expect.refuses("open(1) at 8", Expect.STATE, t, () -> t.open(1));
        t.advance(1);
        Expect.undoable("open(1) at 9", t, () -> t.open(1));
        Expect.same("crate 2 waits since", t.crate(2, 8), 9);
        Expect.same("open(2): works directly in it", t.open(2), 1);
        Expect.same("open crates", t.whole(9), 3);
    }

    private static void openRefusals() {
        CrateTour t = Scenes.nestedCrates();
        t.addCrate(0, 1);
        refuseCrateNumbers("open", t, t::open);
        Expect.refuses("open(3) that is open", Expect.STATE, t, () -> t.open(3));
        Expect.refuses("open(1) in a closed crate", Expect.STATE, t, () -> t.open(1));
        Expect.refuses("open(2) in two closed crates", Expect.STATE, t, () -> t.open(2));
        t.open(0);
        Expect.refuses("open(2) in a closed crate in an open one", Expect.STATE, t, () -> t.open(2));
        t.close(0);
        t.send(0, 1, NONE);
        t.advance(29);
        Expect.refuses("open(0) on its way", Expect.STATE, t, () -> t.open(0));
        Expect.refuses("open(1) on its way", Expect.STATE, t, () -> t.open(1));
        t.advance(1);
        Expect.refuses("open(0) at its arrival", Expect.STATE, t, () -> t.open(0));
        t.advance(9);
        Expect.refuses("open(0) 9 hours later", Expect.STATE, t, () -> t.open(0));
        t.advance(1);
        Expect.same("open(0) 10 hours later", t.open(0), 1);
    }

    /** Crates within crates as deep as can be, the inner ones with the lower numbers. */
    private static void openAndCloseTwelve() {
        CrateTour t = Scenes.twelveNestedCrates();
        t.setClimate(0, 25, 50);
        for (int crate = 11; crate >= 0; crate--) {
            int one = crate;
            Expect.refuses("open(" + crate + ") too soon", Expect.STATE, t, () -> t.open(one));
            t.advance(2);
            Expect.same("open(" + crate + ")", t.open(crate), 1);
            if (crate > 0) {
                Expect.same("crate " + (crate - 1) + " waits since", t.crate(crate - 1, 8), t.whole(0));
            }
        }
        Expect.same("open crates", t.whole(9), 12);
        Expect.same("unpack(0), out of twelve crates", t.unpack(0), 0);
        Expect.same("pack(0, 0) again", t.pack(0, 0), 1);
        for (int crate = 11; crate > 0; crate--) {
            int one = crate;
            Expect.refuses("close(" + crate + ") around an open one", Expect.STATE, t, () -> t.close(one));
        }
        for (int crate = 0; crate < 12; crate++) {
            Expect.same("close(" + crate + "): works in it or below it", t.close(crate), crate + 1);
        }
        Expect.same("send(11, 1, NONE)", t.send(11, 1, NONE), 54);
        Expect.same("advance(30)", t.advance(30), 1);
        Expect.same("venue of crate 0", t.crate(0, 3), 1);
        Expect.same("legs left of work 0", t.work(0, 2), 19);
        Expect.same("send(11, 0, NONE)", t.send(11, 0, NONE), 84);
        Expect.same("advance(30) again", t.advance(30), 1);
        Expect.same("venue of crate 0", t.crate(0, 3), 0);
        Expect.same("arrived so far", t.whole(7), 2);
        t.open(11);
        Expect.same("takeOut(10)", t.takeOut(10), 11);
        Expect.same("nest(10, 11): crates directly in it", t.nest(10, 11), 1);
    }

    private static void closeTakesTheClimate() {
        CrateTour t = Scenes.nestedCrates();
        t.open(0);
        t.open(1);
        t.setClimate(0, 23, 44);
        t.advance(6);
        Expect.undoable("close(1)", t, () -> t.close(1));
        Expect.row("crate 1", Scenes.crate(t, 1), 4, 0, 0, 0, -1, -1, 23, 44, 6, 0, 2, 1, 23, 1);
        Expect.row("crate 2", Scenes.crate(t, 2), 1, 0, 1, 0, -1, -1, 20, 50, 0, 1, 1, 0, 3, 0);
        t.advance(1);
        Expect.same("close(0): works in it or below it", t.close(0), 3);
        Expect.row("crate 0", Scenes.crate(t, 0), 2, 0, -1, 0, -1, -1, 23, 44, 7, 0, 3, 2, 123, 1);
        Expect.same("crate 1 waits since", t.crate(1, 8), 6);
        t.addCrate(2, 1);
        Expect.same("close(3): works in it or below it", t.close(3), 0);
        Expect.row("crate 3", Scenes.crate(t, 3), 1, 0, -1, 2, -1, -1, 25, 60, 7, 0, 0, 0, 0, 1);
    }

    private static void closeRefusals() {
        CrateTour t = Scenes.nestedCrates();
        refuseCrateNumbers("close", t, t::close);
        Expect.refuses("close(0) that is closed", Expect.STATE, t, () -> t.close(0));
        Expect.refuses("close(1) in a closed crate", Expect.STATE, t, () -> t.close(1));
        t.open(0);
        t.open(1);
        t.open(2);
        Expect.refuses("close(0) around an open crate", Expect.STATE, t, () -> t.close(0));
        Expect.refuses("close(1) around an open crate", Expect.STATE, t, () -> t.close(1));
        Expect.same("close(2)", t.close(2), 1);
        Expect.refuses("close(0) around an open crate still", Expect.STATE, t, () -> t.close(0));
        Expect.same("close(1)", t.close(1), 2);
        Expect.same("close(0)", t.close(0), 3);
    }

    private static void nest() {
        CrateTour t = Scenes.threeVenues();
        for (int i = 0; i < 5; i++) {
            t.addCrate(1, 1);
        }
        t.close(1);
        t.close(2);
        t.advance(3);
        Expect.undoable("nest(1, 0)", t, () -> t.nest(1, 0));
        Expect.same("crate 1 is in", t.crate(1, 2), 0);
        Expect.same("crate 1 is at", t.crate(1, 3), 1);
        Expect.same("crate 1 waits since", t.crate(1, 8), 0);
        Expect.same("crate 1 is within reach", t.crate(1, 13), 1);
        Expect.same("crates at the venue", t.venue(1, 6), 4);
        Expect.same("nest(2, 0): crates directly in it", t.nest(2, 0), 2);
        t.open(1);
        t.close(3);
        Expect.same("nest(3, 1) in a nested one", t.nest(3, 1), 1);
        t.close(4);
        Expect.same("nest(4, 0): crates directly in it", t.nest(4, 0), 3);
        Expect.same("crates below crate 0", t.crate(0, 11), 4);

        CrateTour other = Scenes.threeVenues();
        for (int i = 0; i < 4; i++) {
            other.addCrate(2, 1);
        }
        other.close(0);
        other.close(1);
        Expect.same("nest(0, 3): crates directly in it", other.nest(0, 3), 1);
        Expect.same("nest(1, 2): crates directly in it", other.nest(1, 2), 1);
    }

    private static void nestRefusals() {
        CrateTour t = Scenes.threeVenues();
        for (int i = 0; i < 5; i++) {
            t.addCrate(i == 4 ? 1 : 0, 1);
        }
        for (int no : new int[] {-1, 5, LOW, HIGH}) {
            Expect.refuses("nest(" + no + ", 0)", Expect.INDEX, t, () -> t.nest(no, 0));
            Expect.refuses("nest(0, " + no + ")", Expect.INDEX, t, () -> t.nest(0, no));
            Expect.refuses("nest(" + no + ", " + no + ")", Expect.INDEX, t, () -> t.nest(no, no));
        }
        Expect.refuses("nest(0, 0) that is open", Expect.STATE, t, () -> t.nest(0, 0));
        Expect.refuses("nest(0, 1) that is open", Expect.STATE, t, () -> t.nest(0, 1));
        t.close(0);
        t.close(1);
        Expect.refuses("nest(0, 0)", Expect.STATE, t, () -> t.nest(0, 0));
        Expect.refuses("nest(0, 1) into a closed one", Expect.STATE, t, () -> t.nest(0, 1));
        Expect.refuses("nest(0, 4) at another venue", Expect.STATE, t, () -> t.nest(0, 4));
        t.nest(0, 2);
        Expect.refuses("nest(0, 3) that is in another one", Expect.STATE, t, () -> t.nest(0, 3));
        Expect.refuses("nest(0, 2) again", Expect.STATE, t, () -> t.nest(0, 2));
        t.open(0);
        t.close(3);
        Expect.same("nest(3, 0) in an open one within reach", t.nest(3, 0), 1);
        t.takeOut(3);
        t.close(0);
        t.close(2);
        Expect.refuses("nest(2, 0) into one in itself", Expect.STATE, t, () -> t.nest(2, 0));
        Expect.refuses("nest(1, 0) not within reach", Expect.STATE, t, () -> t.nest(1, 0));
        t.send(1, 1, NONE);
        Expect.refuses("nest(1, 4) on its way", Expect.STATE, t, () -> t.nest(1, 4));
        t.advance(30);
        Expect.same("nest(1, 4) when it is there", t.nest(1, 4), 1);
    }

    private static void takeOut() {
        CrateTour t = Scenes.nestedCrates();
        t.open(0);
        t.open(1);
        t.advance(4);
        Expect.undoable("takeOut(2)", t, () -> t.takeOut(2));
        Expect.row("crate 2", Scenes.crate(t, 2), 1, 0, -1, 0, -1, -1, 20, 50, 0, 0, 1, 0, 3, 1);
        Expect.same("crates at the venue", t.venue(0, 6), 2);
        t.close(1);
        Expect.same("takeOut(1): the crate in which it was", t.takeOut(1), 0);
        t.nest(2, 0);
        t.undo();
        t.nest(1, 0);
        Expect.same("takeOut(1) again", t.takeOut(1), 0);
        t.open(1);
        t.nest(2, 1);
        Expect.same("takeOut(2): the crate in which it was", t.takeOut(2), 1);
        t.setWay(0, 2, 5);
        t.close(0);
        Expect.same("send(0, 1, NONE) alone", t.send(0, 1, NONE), 34);
        Expect.same("send(2, 2, NONE) alone", t.send(2, 2, NONE), 9);
    }

    private static void takeOutRefusals() {
        CrateTour t = Scenes.nestedCrates();
        refuseCrateNumbers("takeOut", t, t::takeOut);
        Expect.refuses("takeOut(0) that is in none", Expect.STATE, t, () -> t.takeOut(0));
        Expect.refuses("takeOut(1) of a closed one", Expect.STATE, t, () -> t.takeOut(1));
        Expect.refuses("takeOut(2) of a closed one", Expect.STATE, t, () -> t.takeOut(2));
        t.open(0);
        Expect.refuses("takeOut(2) of a closed one in an open one", Expect.STATE, t, () -> t.takeOut(2));
        t.open(1);
        Expect.refuses("takeOut(1) that is open", Expect.STATE, t, () -> t.takeOut(1));
        Expect.refuses("takeOut(0) that is open, in none", Expect.STATE, t, () -> t.takeOut(0));
        t.close(1);
        t.close(0);
        t.send(0, 1, NONE);
        Expect.refuses("takeOut(0) on its way", Expect.STATE, t, () -> t.takeOut(0));
        Expect.refuses("takeOut(1) on its way", Expect.STATE, t, () -> t.takeOut(1));
    }

    private static void pack() {
        CrateTour t = Scenes.threeVenues();
        t.addCrate(1, 1);
        t.addCrate(1, 1);
        for (int i = 0; i < 3; i++) {
            t.addWork(1, i, 10 + i, 5, false);
        }
        t.close(1);
        t.nest(1, 0);
        t.open(1);
        Expect.undoable("pack(0, 0)", t, () -> t.pack(0, 0));
        Expect.row("work 0", Scenes.work(t, 0), 0, 10, 5, 0, 0, 1, 1, 0);
        Expect.same("pack(1, 1): works directly in it", t.pack(1, 1), 1);
        Expect.row("work 1", Scenes.work(t, 1), 1, 11, 5, 0, 1, 1, 2, 0);
        Expect.same("pack(2, 0): works directly in it", t.pack(2, 0), 2);
        Expect.same("works in crate 0 or below it", t.crate(0, 10), 3);
    }

    private static void packRefusals() {
        CrateTour t = Scenes.nestedCrates();
        t.addCrate(1, 1);
        t.addCrate(0, 1);
        t.addWork(0, 0, 7, 5, false);
        for (int no : new int[] {-1, 4, LOW, HIGH}) {
            Expect.refuses("pack(" + no + ", 4)", Expect.INDEX, t, () -> t.pack(no, 4));
        }
        for (int no : new int[] {-1, 5, LOW, HIGH}) {
            Expect.refuses("pack(3, " + no + ")", Expect.INDEX, t, () -> t.pack(3, no));
            Expect.refuses("pack(0, " + no + ") of one in a crate", Expect.INDEX, t, () -> t.pack(0, no));
        }
        Expect.refuses("pack(3, 0) into a closed one", Expect.STATE, t, () -> t.pack(3, 0));
        Expect.refuses("pack(3, 1) not within reach", Expect.STATE, t, () -> t.pack(3, 1));
        Expect.refuses("pack(3, 3) at another venue", Expect.STATE, t, () -> t.pack(3, 3));
        t.open(0);
        Expect.refuses("pack(0, 4) of one in a crate", Expect.STATE, t, () -> t.pack(0, 4));
        Expect.refuses("pack(0, 0) of one in this crate", Expect.STATE, t, () -> t.pack(0, 0));
        Expect.refuses("pack(3, 1) into a closed one in an open one", Expect.STATE, t, () -> t.pack(3, 1));
        Expect.same("pack(3, 0)", t.pack(3, 0), 2);
        t.unpack(3);
        t.close(0);
        t.send(0, 1, NONE);
        Expect.refuses("pack(3, 0) on its way", Expect.STATE, t, () -> t.pack(3, 0));
    }

    private static void unpack() {
        CrateTour t = Scenes.nestedCrates();
        t.send(0, 1, NONE);
        t.advance(40);
        t.open(0);
        t.advance(240);
        t.open(1);
        Expect.undoable("unpack(1)", t, () -> t.unpack(1));
        Expect.row("work 1", Scenes.work(t, 1), 0, 20, 4, 0, -1, 1, 0, 0);
        Expect.same("unpack(0): the venue", t.unpack(0), 1);
        Expect.same("crate of work 0", t.work(0, 4), -1);
        Expect.same("works in crate 0 or below it", t.crate(0, 10), 1);
        Expect.same("pack(1, 0) again", t.pack(1, 0), 1);
        Expect.same("unpack(1) again", t.unpack(1), 1);
    }

    private static void unpackRefusals() {
        CrateTour t = Scenes.nestedCrates();
        t.addWork(0, 0, 7, 5, false);
        for (int no : new int[] {-1, 4, LOW, HIGH}) {
            Expect.refuses("unpack(" + no + ")", Expect.INDEX, t, () -> t.unpack(no));
        }
        Expect.refuses("unpack(3) that is in no crate", Expect.STATE, t, () -> t.unpack(3));
        Expect.refuses("unpack(0) of a closed one", Expect.STATE, t, () -> t.unpack(0));
        Expect.refuses("unpack(1) of one not within reach", Expect.STATE, t, () -> t.unpack(1));
        t.open(0);
        Expect.refuses("unpack(1) of a closed one in an open one", Expect.STATE, t, () -> t.unpack(1));
        t.close(0);
        t.send(0, 1, NONE);
        Expect.refuses("unpack(0) on its way", Expect.STATE, t, () -> t.unpack(0));
    }

    private static void send() {
        CrateTour t = Scenes.nestedCrates();
        t.addCourier(0);
        t.addCourier(0);
        t.advance(5);
        Expect.undoable("send(0, 1, 1)", t, () -> t.send(0, 1, 1));
        Expect.row("crate 0", Scenes.crate(t, 0), 2, 0, -1, -1, 1, 35, 20, 50, 0, -1, 3, 2, 123, 0);
        Expect.row("crate 1", Scenes.crate(t, 1), 4, 0, 0, -1, 1, 35, 20, 50, 0, -1, 2, 1, 23, 0);
        Expect.row("work 2", Scenes.work(t, 2), 0, 3, 5, 0, 2, -1, 3, 0);
        Expect.row("venue 0", Scenes.venue(t, 0), 20, 50, 10, 10_000_000, 0, 0, 0, 1, 0);
        Expect.row("venue 1", Scenes.venue(t, 1), 10, 40, 20, 10_000_000, 0, 123, 0, 0, 0);
        Expect.same("courier(0) who stays", t.courier(0), 0);
        Expect.same("courier(1) who goes along", t.courier(1), -1);
        Expect.same("works on their way", t.whole(8), 3);
        t.advance(30);
        Expect.same("courier(1) who has arrived", t.courier(1), 1);
        Expect.same("send(0, 0, NONE) back, without a courier", t.send(0, 0, NONE), 65);
        t.advance(30);
        Expect.same("courier(1) who stayed", t.courier(1), 1);
    }

    private static void sendRefusals() {
        CrateTour t = Scenes.closedCrate();
        t.addCourier(0);
        t.addCourier(1);
        for (int no : new int[] {-1, 1, LOW, HIGH}) {
            Expect.refuses("send(" + no + ", 1, 0)", Expect.INDEX, t, () -> t.send(no, 1, 0));
        }
        for (int no : new int[] {-1, 3, LOW, HIGH}) {
            Expect.refuses("send(0, " + no + ", 0)", Expect.INDEX, t, () -> t.send(0, no, 0));
        }
        for (int no : new int[] {-2, 2, LOW, HIGH}) {
            Expect.refuses("send(0, 1, " + no + ")", Expect.INDEX, t, () -> t.send(0, 1, no));
        }
        Expect.refuses("send(0, 1, 1), the courier elsewhere", Expect.STATE, t, () -> t.send(0, 1, 1));
        Expect.refuses("send(0, 0, NONE), its own venue", Expect.STATE, t, () -> t.send(0, 0, NONE));
        Expect.refuses("send(0, 2, NONE), no way", Expect.STATE, t, () -> t.send(0, 2, NONE));
        t.setLender(0, 3, 2);
        Expect.refuses("send(0, 1, NONE), barred", Expect.STATE, t, () -> t.send(0, 1, NONE));
        t.setLender(0, 3, 0);
        t.open(0);
        Expect.refuses("send(0, 1, NONE), open", Expect.STATE, t, () -> t.send(0, 1, NONE));
        t.close(0);
        Expect.same("send(0, 1, 0)", t.send(0, 1, 0), 30);
        Expect.refuses("send(0, 1, NONE), on its way", Expect.STATE, t, () -> t.send(0, 1, NONE));
    }

    private static void advanceMovesCrates() {
        CrateTour t = Scenes.nestedCrates();
        t.addCrate(2, 1);
        t.close(3);
        t.addCourier(2);
        t.addWork(0, 0, 9, 5, false);
        t.send(0, 1, NONE);
        t.advance(20);
        t.send(3, 1, 0);
        Expect.same("advance(9)", t.advance(9), 0);
        Expect.same("arrived so far", t.whole(7), 0);
        Expect.same("legs left on the way", t.work(0, 2), 5);
        Expect.undoable("advance(1)", t, () -> t.advance(1));
        Expect.same("time", t.whole(0), 30);
        Expect.same("arrived so far, without those below", t.whole(7), 2);
        Expect.row("crate 0", Scenes.crate(t, 0), 2, 0, -1, 1, -1, -1, 20, 50, 30, 10, 3, 2, 123, 1);
        Expect.row("crate 1", Scenes.crate(t, 1), 4, 0, 0, 1, -1, -1, 20, 50, 0, 20, 2, 1, 23, 0);
        Expect.row("crate 2", Scenes.crate(t, 2), 1, 0, 1, 1, -1, -1, 20, 50, 0, 5, 1, 0, 3, 0);
        Expect.row("crate 3", Scenes.crate(t, 3), 1, 0, -1, 1, -1, -1, 25, 60, 30, 8, 0, 0, 0, 1);
        Expect.same("courier(0)", t.courier(0), 1);
        for (int work = 0; work < 3; work++) {
            Expect.same("legs left of work " + work, t.work(work, 2), 4);
        }
        Expect.same("legs left of work 3 that stayed", t.work(3, 2), 5);
        t.undo();
        Expect.same("advance(240) behind the undo()", t.advance(240), 2);
        Expect.same("crate 0 waits since", t.crate(0, 8), 30);
    }

    private static void advanceEndsDays() {
        CrateTour t = Scenes.threeVenues();
        t.addCrate(0, 1);
        t.addWork(0, 0, 9_999, 5, false);
        t.addWork(1, 0, 12_345, 5, false);
        t.addWork(2, 0, 12_345, 5, false);
        t.addWork(0, 0, 10_000, 5, false);
        t.pack(3, 0);
        t.close(0);
        t.advance(23);
        Expect.same("premiums before the day's end", t.whole(5), 0);
        Expect.same("place before the day's end", t.noted(0, 0), -1);
        Expect.undoable("advance(1)", t, () -> t.advance(1));
        Expect.row("places of work 1", Scenes.noted(t, 1), 1, -1, -1, -1, -1, -1, -1, -1, -1, -1);
        Expect.same("premiums of work 0: 9999 * 10 / 10000", t.work(0, 7), 9);
        Expect.same("premiums of work 1: 12345 * 20 / 10000", t.work(1, 7), 24);
        Expect.same("premiums of work 2, at no rate", t.work(2, 7), 0);
        Expect.same("premiums of work 3, in a crate", t.work(3, 7), 10);
        Expect.same("premiums at venue 0", t.venue(0, 8), 19);
        Expect.same("premiums at venue 1", t.venue(1, 8), 24);
        Expect.same("premiums at venue 2", t.venue(2, 8), 0);
        Expect.same("premiums of all", t.whole(5), 43);
        t.setWayRate(37);
        t.send(0, 1, NONE);
        t.advance(24);
        Expect.same("premiums of work 3, on its way: 10 + 37", t.work(3, 7), 47);
        Expect.same("premiums for ways", t.whole(6), 37);
        Expect.same("premiums of all", t.whole(5), 43 + 37 + 9 + 24);
        Expect.same("place of work 3, on its way", t.noted(3, 0), 8);
        Expect.same("place of work 3, a day before", t.noted(3, 1), 0);
        t.advance(24);
        Expect.same("place of work 3, in its crate at the goal", t.noted(3, 0), 1);
        Expect.same("premiums of work 3: 47 + 20", t.work(3, 7), 67);
        Expect.same("premiums at venue 1", t.venue(1, 8), 24 + 24 + 44);

        // A crate that arrives at the end of a day has arrived before the places are noted.
        CrateTour other = Scenes.closedCrate();
        other.setWay(0, 1, 24);
        other.send(0, 1, NONE);
        other.advance(24);
        Expect.same("place at the hour of the arrival", other.noted(0, 0), 1);
        Expect.same("premium at the hour of the arrival", other.work(0, 7), 400);
        Expect.same("premiums for ways", other.whole(6), 0);
        other.advance(240);
        Expect.row("places", Scenes.noted(other, 0), 1, 1, 1, 1, 1, 1, 1, 1, 1, 1);
        Expect.same("premiums of eleven days", other.work(0, 7), 4400);
    }

    private static void advancePaysLargePremiums() {
        Expect.same("a day on the way: 1000000 * 5000 / 10000", dayOnTheWay(), 500_000);
        CrateTour t = new CrateTour();
        t.addVenue(20, 50, 500, 10_000_000);
        t.addWork(0, 0, 1_000_000, 0, false);
        t.addWork(0, 0, 1_000_000, 0, false);
        Scenes.type(t, "wait 240;".repeat(16));
        int runs = 269;
        for (int i = 0; i < runs; i++) {
            t.runCommands();
        }
        long paid = runs * 160L * 50_000;
        Expect.isTrue("the premiums of a work have wrapped", paid > Integer.MAX_VALUE);
        Expect.same("time", t.whole(0), runs * 3840);
        Expect.same("premiums of work 1, wrapped", t.work(1, 7), (int) paid);
        Expect.same("premiums of all, wrapped", t.whole(5), (int) (2 * paid));
        Expect.same("premiums at the venue, wrapped", t.venue(0, 8), (int) (2 * paid));
    }

    private static int dayOnTheWay() {
        CrateTour t = Scenes.threeVenues();
        t.setWayRate(5000);
        t.addCrate(0, 1);
        t.addWork(0, 0, 1_000_000, 20, false);
        t.pack(0, 0);
        t.close(0);
        t.send(0, 1, NONE);
        t.advance(24);
        return t.work(0, 7);
    }

    private static void advanceRefusals() {
        CrateTour t = new CrateTour();
        for (int hours : new int[] {0, -1, 241, LOW, HIGH}) {
            Expect.refuses("advance(" + hours + ")", Expect.ARGUMENT, t, () -> t.advance(hours));
        }
        Expect.same("advance(1)", t.advance(1), 0);
        Expect.same("advance(240)", t.advance(240), 0);
        Expect.same("time", t.whole(0), 241);
    }

    /** A call on a crate. */
    private interface CrateCall {
        int on(int crate);
    }

    private static void refuseCrateNumbers(String name, CrateTour t, CrateCall call) {
        for (int no : new int[] {-1, t.whole(2), 12, LOW, HIGH}) {
            Expect.refuses(name + "(" + no + ")", Expect.INDEX, t, () -> call.on(no));
        }
    }
}
