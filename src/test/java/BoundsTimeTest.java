/** Promise 17, and what time does: each sentence that names a boundary, in a test of its own. */
public final class BoundsTimeTest {
    private static final int NONE = CrateTour.NONE;

    public static void main(String[] args) {
        Expect.all(BoundsTimeTest.class);
        Expect.done("BoundsTimeTest");
    }

    private static CrateTour later(int hours) {
        CrateTour t = Scenes.busy();
        t.advance(hours);
        return t;
    }

    /** "hours: 1 to 240", "if hours is out of range" */
    private static void advanceHours() {
        Twin.range("advance", Expect.ARGUMENT, 1, 240, Scenes::busy, CrateTour::advance, t -> t.whole(0) - 50);
        Twin.range("advance of a new tour", Expect.ARGUMENT, 1, 240, CrateTour::new, CrateTour::advance,
                t -> t.whole(0));
    }

    private static void advanceIsUndoable() {
        Twin.isUndoable("advance(1)", Scenes::busy, t -> t.advance(1), 0);
        Twin.isUndoable("advance(240)", Scenes::busy, t -> t.advance(240), 1);
    }

    /** "Returns the number of crates that arrived (without those below them)": none, one, all at once. */
    private static void advanceReturnsTheArrivals() {
        Expect.same("advance(24), an hour before", Scenes.busy().advance(24), 0);
        Expect.same("advance(25), one that holds another", Scenes.busy().advance(25), 1);
        Expect.same("advance(1) behind the arrival", later(25).advance(1), 0);
        for (int together = 0; together < 2; together++) {
            CrateTour t = twelveSent(together == 1);
            Expect.same("advance(9)", t.advance(9), 0);
            Expect.same("advance(1)", t.advance(1), together == 1 ? 12 : 1);
            Expect.same("advance(11)", t.advance(11), together == 1 ? 0 : 11);
            Expect.same("whole(7)", t.whole(7), 12);
        }
        CrateTour t = twelveSent(false);
        Expect.same("advance(240) over all arrivals", t.advance(240), 12);
    }

    /** Twelve crates on their way to venue 1, which arrive at 10, or one an hour from 10 on. */
    private static CrateTour twelveSent(boolean together) {
        CrateTour t = Scenes.threeVenues();
        for (int i = 0; i < 12; i++) {
            t.addCrate(0, 1);
            t.close(i);
            t.setWay(0, 1, together ? 10 : 10 + i);
            t.send(i, 1, NONE);
        }
        return t;
    }

    /** "Time is counted in hours from 0", "the time increases by 1" for each hour. */
    private static void timeIsCounted() {
        CrateTour t = new CrateTour();
        Expect.same("time", t.whole(0), 0);
        for (int hour = 1; hour <= 25; hour++) {
            t.advance(1);
            Expect.same("time", t.whole(0), hour);
        }
    }

    /** "An object is used for at most 512 calls after it has been made": the last of these answers as due. */
    private static void lastCallThatIsPromised() {
        CrateTour t = new CrateTour();
        for (int call = 1; call <= 510; call++) {
            t.advance(240);
        }
        Expect.same("undo(), call 511", t.undo(), 3);
        Expect.same("time, call 512", t.whole(0), 509 * 240);
    }

    /** "at the time of sending plus the hours of the way it arrives": not an hour earlier, and in a long wait too. */
    private static void crateArrivesAtItsHour() {
        Expect.row("crate 5 at 74", Scenes.crate(later(24), 5),
                2, 0, NONE, NONE, 1, 75, 20, 50, 0, NONE, 2, 1, 2011, 0);
        Expect.row("crate 5 at 75", Scenes.crate(later(25), 5),
                2, 0, NONE, 1, NONE, NONE, 20, 50, 75, 10, 2, 1, 2011, 1);
        Expect.row("crate 5 at 290", Scenes.crate(later(240), 5),
                2, 0, NONE, 1, NONE, NONE, 20, 50, 75, 10, 2, 1, 2011, 1);
    }

    /** "with all that is below it", "(Crates below it stay as they are; what they wait since does not change.)" */
    private static void crateBelowStaysAsItIs() {
        Expect.row("crate 6 at 74", Scenes.crate(later(24), 6), 2, 0, 5, NONE, 1, 75, 20, 50, 0, NONE, 1, 0, 1006, 0);
        Expect.row("crate 6 at 75", Scenes.crate(later(25), 6),
                2, 0, 5, 1, NONE, NONE, 20, 50, 0, 10, 1, 0, 1006, 0);
    }

    /** "for each work in it or below it the number of legs that are left decreases by 1": then, and not elsewhere. */
    private static void legsDecreaseAtTheArrival() {
        for (int work = 0; work < 9; work++) {
            boolean sent = work == 5 || work == 6;
            Expect.same("legs left of work " + work + " at 74", later(24).work(work, 2), 9);
            Expect.same("legs left of work " + work + " at 75", later(25).work(work, 2), sent ? 8 : 9);
            Expect.same("legs left of work " + work + " at 290", later(240).work(work, 2), sent ? 8 : 9);
        }
    }

    /** A leg of the last 20 of a work, twelve crates deep: it has none left behind it. */
    private static void legsDecreaseToNought() {
        CrateTour t = Scenes.twelveNestedCrates();
        t.setWay(0, 1, 1);
        for (int leg = 1; leg <= 20; leg++) {
            t.send(11, leg % 2, NONE);
            t.advance(1);
            Expect.same("legs left behind leg " + leg, t.work(0, 2), 20 - leg);
        }
        Expect.same("refusal with none left", t.refusal(11, 1, NONE), 5);
        t.advance(240);
        Expect.same("legs left, with which it stays", t.work(0, 2), 0);
    }

    /** "A courier who goes along arrives with it": not an hour earlier; the others stay where they are. */
    private static void courierArrivesWithTheCrate() {
        Expect.same("courier(2) at 74", later(24).courier(2), NONE);
        Expect.same("courier(2) at 75", later(25).courier(2), 1);
        Expect.same("courier(2) at 290", later(240).courier(2), 1);
        Expect.same("courier(0) at 290", later(240).courier(0), 0);
        Expect.same("courier(1) at 290", later(240).courier(1), 1);
    }

    /** "A courier who goes along arrives with it": and not with another crate that arrives before it. */
    private static void courierArrivesWithNoOtherCrate() {
        CrateTour t = Scenes.busy();
        t.setWay(0, 2, 26);
        t.send(0, 2, 0);
        t.advance(25);
        Expect.same("courier(2) at 75", t.courier(2), 1);
        Expect.same("courier(0) at 75", t.courier(0), NONE);
        t.advance(1);
        Expect.same("courier(2) at 76", t.courier(2), 1);
        Expect.same("courier(0) at 76", t.courier(0), 2);
    }

    /** "with a courier or without one": a crate that is sent back alone brings no courier. */
    private static void courierStaysWhenTheCrateGoesAlone() {
        CrateTour t = later(25);
        Expect.same("arrival of crate 5 at venue 2", t.send(5, 2, 1), 85);
        t.advance(10);
        t.advance(1);
        Expect.same("arrival of crate 5 at venue 1", t.send(5, 1, 1), 96);
        t.advance(10);
        Expect.same("courier(1), who went there and back", t.courier(1), 1);
        Expect.same("courier(2), who stayed", t.courier(2), 1);
        CrateTour alone = new CrateTour();
        alone.addVenue(20, 50, 0, 0);
        alone.addVenue(20, 50, 0, 0);
        alone.setWay(0, 1, 5);
        alone.addCrate(0, 1);
        alone.close(0);
        alone.addCourier(0);
        alone.send(0, 1, 0);
        alone.advance(5);
        alone.send(0, 0, NONE);
        Expect.same("courier(0), when the crate has left alone", alone.courier(0), 1);
        alone.advance(5);
        Expect.same("courier(0), when the crate has arrived alone", alone.courier(0), 1);
    }

    /** "if the time is divisible by 24, a day has ended": at 24 and 48, not an hour before or behind them, nor at 0. */
    private static void dayEndsEvery24Hours() {
        CrateTour t = new CrateTour();
        t.addVenue(20, 50, 500, 0);
        t.addWork(0, 0, 1000, 0, false);
        Expect.same("premiums at 0", t.work(0, 7), 0);
        for (int hour = 1; hour <= 49; hour++) {
            t.advance(1);
            Expect.same("premiums at " + hour, t.work(0, 7), hour < 24 ? 0 : hour < 48 ? 50 : 100);
            Expect.same("the latest place at " + hour, t.noted(0, 0), hour < 24 ? NONE : 0);
            Expect.same("the one before at " + hour, t.noted(0, 1), hour < 48 ? NONE : 0);
        }
        CrateTour once = new CrateTour();
        once.addVenue(20, 50, 500, 0);
        once.addWork(0, 0, 1000, 0, false);
        once.advance(240);
        Expect.same("premiums of ten days in one wait", once.work(0, 7), 500);
    }

    /** "its venue (or that of the outermost crate around it), or 8 if it is on its way": 7 is the last venue. */
    private static void placeIsNoted() {
        CrateTour t = Scenes.full();
        t.pack(7, 7);
        t.close(7);
        t.advance(24);
        Expect.same("place of work 15, at the last venue", t.noted(15, 0), 7);
        Expect.same("place of work 7, in a crate there", t.noted(7, 0), 7);
        Expect.same("place of work 0, at the first venue", t.noted(0, 0), 0);
        t.setWay(7, 0, 200);
        t.send(7, 0, NONE);
        t.advance(24);
        Expect.same("place of work 15, without a crate", t.noted(15, 0), 7);
        Expect.same("place of work 7, on its way", t.noted(7, 0), 8);
        CrateTour deep = Scenes.twelveNestedCrates();
        deep.send(11, 1, NONE);
        deep.advance(24);
        Expect.same("place of work 0, twelve deep and on its way", deep.noted(0, 0), 8);
        deep.advance(24);
        Expect.same("place of work 0, twelve deep and there", deep.noted(0, 0), 1);
    }

    /** "Then the crates arrive .. Then .. a day has ended": an arrival at the day's end is before it. */
    private static void arrivalIsBeforeTheDaysEnd() {
        int[] hours = {23, 24, 25};
        int[] places = {1, 1, 8};
        for (int i = 0; i < 3; i++) {
            CrateTour t = Scenes.closedCrate();
            t.setWay(0, 1, hours[i]);
            t.send(0, 1, NONE);
            t.advance(24);
            Expect.same("place at 24 by a way of " + hours[i], t.noted(0, 0), places[i]);
            Expect.same("premium at 24", t.work(0, 7), places[i] == 1 ? 400 : 2000);
            Expect.same("premium for ways", t.whole(6), places[i] == 1 ? 0 : 2000);
            Expect.same("premium at venue 1", t.venue(1, 8), places[i] == 1 ? 400 : 0);
        }
        CrateTour left = Scenes.closedCrate();
        left.advance(24);
        left.send(0, 1, NONE);
        Expect.same("place of one that leaves behind the day's end", left.noted(0, 0), 0);
        left.advance(23);
        Expect.same("premium for ways an hour before the next", left.whole(6), 0);
        left.advance(1);
        Expect.same("premium for ways at the next", left.whole(6), 2000);
    }

    /** "floor(value * rate / 10000), with the rate of the venue": just below a whole number, and at it. */
    private static void premiumIsRoundedDown() {
        // Value, rate, premium.
        int[][] cases = {{1, 0, 0}, {1_000_000, 0, 0}, {1, 500, 0}, {19, 500, 0}, {20, 500, 1}, {39, 500, 1},
            {40, 500, 2}, {9_999, 1, 0}, {10_000, 1, 1}, {19_999, 1, 1}, {20_000, 1, 2}, {1_000_000, 1, 100},
            {999_999, 1, 99}, {1_000_000, 500, 50_000}, {999_999, 500, 49_999}, {999_999, 499, 49_899}};
        for (int[] n : cases) {
            CrateTour t = new CrateTour();
            t.addVenue(20, 50, n[1], 0);
            t.addWork(0, 0, n[0], 0, false);
            t.advance(24);
            String what = " of " + n[0] + " at rate " + n[1];
            Expect.same("work(0, 7)" + what, t.work(0, 7), n[2]);
            Expect.same("venue(0, 8)" + what, t.venue(0, 8), n[2]);
            Expect.same("whole(5)" + what, t.whole(5), n[2]);
            Expect.same("whole(6)" + what, t.whole(6), 0);
        }
    }

    /** "or the rate for ways": up to a product that is no int. */
    private static void premiumForWaysIsRoundedDown() {
        int[][] cases = {{1_000_000, 0, 0}, {1, 5000, 0}, {2, 5000, 1}, {3, 5000, 1}, {4, 5000, 2},
            {9_999, 1, 0}, {10_000, 1, 1}, {429_496, 5000, 214_748}, {429_497, 5000, 214_748},
            {858_993, 5000, 429_496}, {858_994, 5000, 429_497}, {999_999, 5000, 499_999},
            {1_000_000, 5000, 500_000}, {1_000_000, 4999, 499_900}, {1_000_000, 2147, 214_700},
            {1_000_000, 2148, 214_800}};
        for (int[] n : cases) {
            CrateTour t = Scenes.threeVenues();
            t.addCrate(0, 1);
            t.addWork(0, 0, n[0], 1, false);
            t.pack(0, 0);
            t.close(0);
            t.setWayRate(n[1]);
            t.send(0, 1, NONE);
            t.advance(24);
            String what = " of " + n[0] + " at rate " + n[1];
            Expect.same("work(0, 7)" + what, t.work(0, 7), n[2]);
            Expect.same("whole(5)" + what, t.whole(5), n[2]);
            Expect.same("whole(6)" + what, t.whole(6), n[2]);
            Expect.same("venue(0, 8) and venue(1, 8)" + what, t.venue(0, 8) + t.venue(1, 8), 0);
        }
    }

    /** "The rate for ways (.. 100 at first)" */
    private static void premiumForWaysAtFirst() {
        CrateTour t = Scenes.closedCrate();
        t.send(0, 1, NONE);
        t.advance(24);
        Expect.same("premium of 200000 at 100", t.whole(6), 2000);
    }

    /**
     * "Sums of premiums are told as ints that wrap": the greatest int is told, and behind it the sum goes on from
     * the least one. (Those for ways never reach it: with 20 legs of at most 200 hours a work is on its way at
     * the ends of 180 days at the most, for 500000 each.)
     */
    private static void premiumsWrap() {
        CrateTour t = new CrateTour();
        t.addVenue(20, 50, 500, 0);
        t.addWork(0, 0, 1_000_000, 0, false);
        Scenes.type(t, "wait 240;".repeat(16));
        // 42880 days, and 68 more; each pays 50000.
        for (int run = 0; run < 268; run++) {
            t.runCommands();
        }
        for (int i = 0; i < 6; i++) {
            t.advance(240);
        }
        t.advance(192);
        t.addWork(0, 0, 672_940, 0, false);
        sums(t, 2_147_400_000, 0, 2_147_400_000);
        t.advance(24);
        sums(t, 2_147_450_000, 33_647, Integer.MAX_VALUE);
        t.advance(24);
        sums(t, Integer.MIN_VALUE + 16_352, 67_294, Integer.MIN_VALUE + 83_646);
        t.advance(24);
        sums(t, Integer.MIN_VALUE + 66_352, 100_941, Integer.MIN_VALUE + 167_293);
        t.undo();
        sums(t, Integer.MIN_VALUE + 16_352, 67_294, Integer.MIN_VALUE + 83_646);
        t.undo();
        sums(t, 2_147_450_000, 33_647, Integer.MAX_VALUE);
    }

    private static void sums(CrateTour t, int first, int second, int all) {
        String when = " at " + t.whole(0);
        Expect.same("work(0, 7)" + when, t.work(0, 7), first);
        Expect.same("work(1, 7)" + when, t.work(1, 7), second);
        Expect.same("venue(0, 8)" + when, t.venue(0, 8), all);
        Expect.same("whole(5)" + when, t.whole(5), all);
        Expect.same("whole(6)" + when, t.whole(6), 0);
    }

    /** The same wrap in the digest, which takes the sums as they are told. */
    private static void premiumsWrapInTheDigest() {
        CrateTour t = new CrateTour();
        t.addVenue(20, 50, 500, 0);
        for (int i = 0; i < 16; i++) {
            t.addWork(0, 0, 1_000_000, 0, false);
        }
        Scenes.type(t, "wait 240;".repeat(16));
        for (int run = 0; run < 17; run++) {
            t.runCommands();
        }
        Expect.same("whole(5)", t.whole(5), (int) (17L * 160 * 800_000));
        Expect.isTrue("whole(5) has wrapped", t.whole(5) < 0);
        t.clearCommands();
        t.type('x');
        Expect.same("digest()", t.digest(), Scenes.digest(t, 4, 1));
    }
}
