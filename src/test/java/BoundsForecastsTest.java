/** Promises 25 to 27: each sentence that names a boundary, in a test of its own, with the document's words. */
public final class BoundsForecastsTest {
    private static final int LOW = Twin.LOW;
    private static final int HIGH = Twin.HIGH;
    private static final int NONE = CrateTour.NONE;

    public static void main(String[] args) {
        Expect.all(BoundsForecastsTest.class);
        Expect.done("BoundsForecastsTest");
    }

    // ---- readyAt

    /** "if there is no such work" */
    private static void readyOfNoWork() {
        Twin.refuses("readyAt", Expect.INDEX, Scenes::busy, CrateTour::readyAt, -1, 9, 16, LOW, HIGH);
        Twin.refuses("readyAt", Expect.INDEX, Scenes::full, CrateTour::readyAt, -1, 16);
        Expect.same("readyAt(8), the last one", Scenes.busy().readyAt(8), 50);
        Expect.same("readyAt(15), the last of all", Scenes.full().readyAt(15), 0);
    }

    /** "forecasts, which change nothing": for a work in each kind of place. */
    private static void readyChangesNothing() {
        // Venue 1 has 30 and 40, so that crates 5 and 6 need 10 hours each when they are there.
        int[] due = {50, 50, 50, 50, 50, 85, 95, 50, 50};
        for (int work = 0; work < 9; work++) {
            int one = work;
            Twin.tells("readyAt(" + work + ")", Scenes::busy, t -> t.readyAt(one), due[work]);
        }
    }

    /** "the present one if it is in no crate": at time 0 too. */
    private static void readyInNoCrate() {
        CrateTour t = Scenes.threeVenues();
        t.addWork(0, 0, 1, 0, true);
        Expect.same("readyAt(0) at time 0", t.readyAt(0), 0);
        t.advance(1);
        Expect.same("readyAt(0) at time 1", t.readyAt(0), 1);
        t.advance(240);
        Expect.same("readyAt(0) at time 241", t.readyAt(0), 241);
    }

    /** "not before the present one": the hour before, the hour itself and the hour behind that of a closed crate. */
    private static void readyNotBeforeThePresent() {
        CrateTour t = cold(1);
        Expect.same("readyAt(0) when it is closed", t.readyAt(0), 8);
        t.advance(7);
        Expect.same("readyAt(0) an hour before", t.readyAt(0), 8);
        Expect.raises("open(0) an hour before", Expect.STATE, () -> t.open(0));
        t.advance(1);
        Expect.same("readyAt(0) in its hour", t.readyAt(0), 8);
        t.advance(1);
        Expect.same("readyAt(0) an hour later", t.readyAt(0), 9);
        t.open(0);
        Expect.same("readyAt(0) when it is open", t.readyAt(0), 9);
        t.unpack(0);
        Expect.same("readyAt(0) when it is out", t.readyAt(0), 9);
    }

    /**
     * So many crates, each closed at time 0 in the one before it, with the work of its number; the climate of
     * the venue is such then that each needs 8 hours.
     */
    private static CrateTour cold(int depth) {
        CrateTour t = Scenes.threeVenues();
        for (int i = 0; i < depth; i++) {
            t.addCrate(0, 1);
            t.addWork(0, 0, 1 + i, 20, false);
            t.pack(i, i);
        }
        for (int i = depth - 1; i >= 0; i--) {
            t.close(i);
            if (i > 0) {
                t.nest(i, i - 1);
            }
        }
        t.setClimate(0, 0, 50);
        return t;
    }

    /** "an open crate takes no time": one, and twelve. */
    private static void readyInOpenCrates() {
        CrateTour t = Scenes.twelveNestedCrates();
        for (int crate = 11; crate >= 0; crate--) {
            t.open(crate);
        }
        t.advance(3);
        t.setClimate(0, 40, 90);
        for (int work = 0; work < 12; work++) {
            Expect.same("readyAt(" + work + ")", t.readyAt(work), 3);
        }
    }

    /** "and a closed one in it waits as it does": since before the open one was opened, too. */
    private static void readyInAClosedOneInAnOpenOne() {
        CrateTour t = Scenes.threeVenues();
        t.addCrate(0, 1);
        t.addCrate(0, 1);
        t.addWork(0, 0, 1, 20, false);
        t.pack(0, 1);
        t.advance(3);
        t.close(1);
        t.advance(2);
        t.nest(1, 0);
        t.setClimate(0, 0, 50);
        Expect.same("readyAt(0) of one that waits since 3", t.readyAt(0), 11);
        t.advance(6);
        Expect.same("readyAt(0) in its hour", t.readyAt(0), 11);
        t.advance(1);
        Expect.same("readyAt(0) an hour later", t.readyAt(0), 12);
    }

    /** "a crate in a closed one waits since that is opened": from one to twelve deep. */
    private static void readyInClosedOnes() {
        CrateTour t = cold(12);
        for (int work = 0; work < 12; work++) {
            Expect.same("readyAt(" + work + ") at 0", t.readyAt(work), 8 * (work + 1));
        }
        t.advance(8);
        Expect.same("readyAt(11) in the hour of the first one", t.readyAt(11), 96);
        t.advance(1);
        Expect.same("readyAt(11) an hour later", t.readyAt(11), 97);
        t.open(0);
        t.advance(1);
        Expect.same("readyAt(11) when the first one is open since 9", t.readyAt(11), 97);
    }

    /** "a crate on its way by its arrival": until the hour before, at the arrival, and an hour behind it. */
    private static void readyOnTheWay() {
        CrateTour t = cold(2);
        t.setClimate(1, 20, 50);
        t.send(0, 1, NONE);
        Expect.same("readyAt(0) with nothing to wait for", t.readyAt(0), 30);
        Expect.same("readyAt(1)", t.readyAt(1), 30);
        t.setClimate(1, 0, 50);
        Expect.same("readyAt(0) with 8 hours to wait", t.readyAt(0), 38);
        Expect.same("readyAt(1)", t.readyAt(1), 46);
        t.advance(29);
        Expect.same("readyAt(1) an hour before the arrival", t.readyAt(1), 46);
        t.advance(1);
        Expect.same("readyAt(0) at the arrival", t.readyAt(0), 38);
        Expect.same("readyAt(1) at the arrival", t.readyAt(1), 46);
        t.advance(9);
        Expect.same("readyAt(0) 9 hours later", t.readyAt(0), 39);
        Expect.same("readyAt(1)", t.readyAt(1), 47);
    }

    /** "with the climate of the venue to which it goes": not of that from which it comes. */
    private static void readyByTheClimateOfTheGoal() {
        CrateTour t = cold(1);
        t.send(0, 1, NONE);
        Expect.same("readyAt(0): 30 + (40 + 10) / 10", t.readyAt(0), 35);
        t.setClimate(0, 40, 90);
        Expect.same("readyAt(0) when the first venue is otherwise", t.readyAt(0), 35);
        t.setClimate(1, -10, 20);
        Expect.same("readyAt(0): 30 + (120 + 30) / 10", t.readyAt(0), 45);
    }

    /** "as soon as they may be": it comes about so, and not an hour earlier. */
    private static void readyComesAbout() {
        CrateTour t = cold(12);
        t.advance(5);
        int last = t.readyAt(11);
        Expect.same("readyAt(11)", last, 96);
        int opened = 0;
        for (int hour = 5; hour <= last; hour++) {
            while (opened < 12 && Scenes.opens(t, opened)) {
                Expect.same("hour in which crate " + opened + " is opened", t.whole(0), 8 * (opened + 1));
                opened++;
            }
            Expect.same("readyAt(11) meanwhile", t.readyAt(11), last);
            t.advance(1);
        }
        Expect.same("crates opened", opened, 12);
    }

    // ---- allReadyAt

    /** "if there is no such crate" */
    private static void allReadyOfNoCrate() {
        Twin.refuses("allReadyAt", Expect.INDEX, Scenes::busy, CrateTour::allReadyAt, -1, 10, 12, LOW, HIGH);
        Twin.refuses("allReadyAt", Expect.INDEX, Scenes::full, CrateTour::allReadyAt, -1, 12);
        Expect.same("allReadyAt(4), with one open crate around it", Scenes.busy().allReadyAt(4), 50);
    }

    /** "Returns the greatest readyAt() of the works in a crate or below it"; "NONE if there are no such works". */
    private static void allReadyChangesNothing() {
        int[] due = {50, 50, 50, 50, 50, 95, 95, NONE, NONE, NONE};
        for (int crate = 0; crate < 10; crate++) {
            int one = crate;
            Twin.tells("allReadyAt(" + crate + ")", Scenes::busy, t -> t.allReadyAt(one), due[crate]);
        }
    }

    /** "the greatest": of works in it, below it, and of sixteen in twelve crates. */
    private static void allReadyIsTheGreatest() {
        CrateTour t = cold(12);
        for (int crate = 0; crate < 12; crate++) {
            Expect.same("allReadyAt(" + crate + ")", t.allReadyAt(crate), 96);
        }
        CrateTour upper = cold(2);
        upper.advance(8);
        upper.open(0);
        upper.advance(8);
        upper.open(1);
        upper.unpack(1);
        upper.close(1);
        upper.close(0);
        upper.setClimate(0, 20, 50);
        Expect.same("allReadyAt(0) with a work in it alone", upper.allReadyAt(0), 24);
        Expect.same("allReadyAt(1) with none", upper.allReadyAt(1), NONE);
    }

    /** "NONE if there are no such works": also with works around it, and on its way. */
    private static void allReadyOfNone() {
        CrateTour t = Scenes.threeVenues();
        t.addCrate(0, 1);
        t.addCrate(0, 1);
        t.addWork(0, 0, 1, 20, false);
        t.pack(0, 0);
        Expect.same("allReadyAt(1) of an open one", t.allReadyAt(1), NONE);
        t.close(1);
        Expect.same("allReadyAt(1) of a closed one", t.allReadyAt(1), NONE);
        t.nest(1, 0);
        Expect.same("allReadyAt(1) beside a work", t.allReadyAt(1), NONE);
        Expect.same("allReadyAt(0) with a work at time 0", t.allReadyAt(0), 0);
        t.unpack(0);
        Expect.same("allReadyAt(0) with an empty one in it", t.allReadyAt(0), NONE);
        t.close(0);
        t.send(0, 1, NONE);
        Expect.same("allReadyAt(0) on its way", t.allReadyAt(0), NONE);
    }

    // ---- bestVenue

    /** "if there is no such crate or courier": NONE is no courier, what is below it is wrong. */
    private static void bestOfNoNumber() {
        Twin.refuses("bestVenue: crate", Expect.INDEX, Scenes::busy, (t, crate) -> t.bestVenue(crate, NONE),
                -1, 10, 12, LOW, HIGH);
        Twin.refuses("bestVenue: courier", Expect.INDEX, Scenes::busy, (t, courier) -> t.bestVenue(0, courier),
                -2, 3, 4, LOW, HIGH);
        Twin.refuses("bestVenue: both", Expect.INDEX, Scenes::busy, (t, no) -> t.bestVenue(no, no), -2, 10);
        Twin.refuses("bestVenue of an open one", Expect.INDEX, Scenes::busy,
                (t, courier) -> t.bestVenue(9, courier), -2, 3);
        CrateTour t = Scenes.full();
        t.close(3);
        Expect.same("bestVenue(3, 3), the last courier", t.bestVenue(3, 3), 4);
        Expect.raises("bestVenue(3, 4)", Expect.INDEX, () -> t.bestVenue(3, 4));
    }

    /** "NONE if it may be sent to none": open, in another one, on its way, without ways, the courier elsewhere. */
    private static void bestOfNone() {
        int[] due = {1, NONE, NONE, NONE, NONE, NONE, NONE, NONE, 2, NONE};
        for (int crate = 0; crate < 10; crate++) {
            int one = crate;
            Twin.tells("bestVenue(" + crate + ", NONE)", Scenes::busy, t -> t.bestVenue(one, NONE), due[crate]);
        }
        Twin.tells("bestVenue(0, 0)", Scenes::busy, t -> t.bestVenue(0, 0), 1);
        Twin.tells("bestVenue(0, 1), the courier elsewhere", Scenes::busy, t -> t.bestVenue(0, 1), NONE);
        Twin.tells("bestVenue(0, 2), the courier on the way", Scenes::busy, t -> t.bestVenue(0, 2), NONE);
        Twin.tells("bestVenue(0, NONE) of a lone venue", BoundsForecastsTest::alone, t -> t.bestVenue(0, NONE), NONE);
    }

    private static CrateTour alone() {
        CrateTour t = new CrateTour();
        t.addVenue(20, 50, 0, 0);
        t.addCrate(0, 1);
        t.close(0);
        return t;
    }

    /**
     * Eight venues of the climate that is in the crate, and a way of 20 hours from venue 3 to each of the others;
     * crate 0 (insulation 4) is closed at venue 3, with work 0 if it is to hold one.
     */
    private static CrateTour star(boolean withWork) {
        CrateTour t = new CrateTour();
        for (int i = 0; i < 8; i++) {
            t.addVenue(20, 50, 0, 10_000_000);
        }
        for (int i = 0; i < 8; i++) {
            if (i != 3) {
                t.setWay(3, i, 20);
            }
        }
        t.addCrate(3, 4);
        t.addWork(3, 0, 1, 20, false);
        if (withWork) {
            t.pack(0, 0);
        }
        t.close(0);
        return t;
    }

    /** "of several the lowest one": of all, of those from some on, and never its own. */
    private static void bestOfSeveralIsTheLowest() {
        for (boolean withWork : new boolean[] {true, false}) {
            CrateTour t = star(withWork);
            int[] due = {1, 2, 4, 4, 5, 6, 7, NONE};
            Expect.same("bestVenue(0, NONE) of all", t.bestVenue(0, NONE), 0);
            for (int gone = 0; gone < 8; gone++) {
                if (gone != 3) {
                    t.setWay(3, gone, 0);
                }
                Expect.same("bestVenue(0, NONE) without 0 to " + gone, t.bestVenue(0, NONE), due[gone]);
            }
        }
    }

    /** "where its works would be ready soonest": an hour sooner counts, at each venue, by the way or by the climate. */
    private static void bestIsTheSoonest() {
        for (int best = 0; best < 8; best++) {
            if (best != 3) {
                CrateTour byWay = star(true);
                byWay.setWay(3, best, 19);
                Expect.same("bestVenue(0, NONE), by the way", byWay.bestVenue(0, NONE), best);
                CrateTour byClimate = star(true);
                for (int other = 0; other < 8; other++) {
                    byClimate.setClimate(other, 20, other == best ? 52 : 53);
                }
                Expect.same("bestVenue(0, NONE), by the climate", byClimate.bestVenue(0, NONE), best);
            }
        }
    }

    /** The hours of the way and those to wait are taken together: 20 + 0, 19 + 1, 18 + 1. */
    private static void bestByWayAndClimateTogether() {
        CrateTour t = star(true);
        t.setWay(3, 5, 19);
        t.setClimate(5, 20, 53);
        Expect.same("bestVenue(0, NONE) of as soon, the lower one", t.bestVenue(0, NONE), 0);
        t.setWay(3, 5, 18);
        Expect.same("bestVenue(0, NONE) of an hour sooner", t.bestVenue(0, NONE), 5);
        t.setClimate(5, 20, 56);
        Expect.same("bestVenue(0, NONE) of 18 + 2 hours", t.bestVenue(0, NONE), 0);
    }

    /** "(of a crate without works: with the earliest arrival)": whatever the climate. */
    private static void bestWithoutWorks() {
        for (int best = 0; best < 8; best++) {
            if (best != 3) {
                CrateTour t = star(false);
                t.setWay(3, best, 19);
                t.setClimate(best, -10, 90);
                Expect.same("bestVenue(0, NONE) of an empty crate", t.bestVenue(0, NONE), best);
            }
        }
        CrateTour t = star(false);
        t.setClimate(0, -10, 90);
        Expect.same("bestVenue(0, NONE) of an empty crate, all as far", t.bestVenue(0, NONE), 0);
    }

    /** "its works": all in it and below it, and none beside it, in a crate or not. */
    private static void bestByItsWorksAlone() {
        CrateTour t = Scenes.threeVenues();
        t.setWay(0, 1, 10);
        t.setWay(0, 2, 12);
        t.setClimate(1, 22, 50);
        t.setClimate(2, 20, 50);
        for (int i = 0; i < 3; i++) {
            t.addCrate(0, 4);
            t.addWork(0, 0, 1, 20, false);
        }
        t.setClimate(0, 22, 50);
        t.pack(2, 2);
        t.close(2);
        t.setClimate(0, 20, 50);
        t.pack(1, 1);
        t.close(1);
        t.nest(1, 0);
        t.close(0);
        // Crate 1 lies in crate 0: 10 + 3 + 3 hours at venue 1, 12 at venue 2. Crate 2 needs 3 at venue 2.
        Expect.same("bestVenue(0, NONE) with a work below it", t.bestVenue(0, NONE), 2);
        Expect.same("bestVenue(2, NONE) with a work in it", t.bestVenue(2, NONE), 1);
        t.setWay(0, 1, 8);
        // 8 + 6 hours are later than 12 for the work below it; of a work in it alone 8 + 3 are sooner.
        Expect.same("bestVenue(0, NONE) with a work below it", t.bestVenue(0, NONE), 2);
        t.open(0);
        t.open(1);
        t.unpack(1);
        t.pack(1, 0);
        t.close(1);
        t.close(0);
        Expect.same("bestVenue(0, NONE) with a work in it", t.bestVenue(0, NONE), 1);
    }

    /** "the venue to which a crate may be sent with a courier": venues against which a reason stands are left out. */
    private static void bestOfThoseAllowed() {
        CrateTour t = star(true);
        t.setWay(3, 6, 1);
        Expect.same("bestVenue(0, NONE)", t.bestVenue(0, NONE), 6);
        t.setLender(0, 3, 64);
        Expect.same("bestVenue(0, NONE) when 6 is barred", t.bestVenue(0, NONE), 0);
        t.setLender(0, 3, 191);
        Expect.same("bestVenue(0, NONE) when all others are barred", t.bestVenue(0, NONE), 6);
        t.setLender(0, 3, 255);
        Expect.same("bestVenue(0, NONE) when all are barred", t.bestVenue(0, NONE), NONE);
        t.setLender(0, 3, 0);
        t.setClimate(6, 21, 50);
        t.setLender(0, 1, 20);
        Expect.same("bestVenue(0, NONE) when 6 is too warm", t.bestVenue(0, NONE), 0);
        t.setClimate(6, 20, 50);
        for (int i = 0; i < 10; i++) {
            t.addWork(6, 0, i == 9 ? 999_999 : 1_000_000, 20, false);
        }
        Expect.same("bestVenue(0, NONE) with as much as the cap", t.bestVenue(0, NONE), 6);
        t.addWork(6, 0, 1, 20, false);
        Expect.same("bestVenue(0, NONE) with 1 above the cap", t.bestVenue(0, NONE), 0);
    }

    /** ".. with a courier": none, one who is there, one who is elsewhere, for a work that needs one. */
    private static void bestWithACourier() {
        CrateTour t = star(false);
        t.addWork(3, 0, 1, 20, true);
        t.addCourier(3);
        t.addCourier(0);
        Expect.same("bestVenue(0, NONE) of an empty crate", t.bestVenue(0, NONE), 0);
        t.open(0);
        t.pack(1, 0);
        t.close(0);
        Expect.same("bestVenue(0, NONE), one being needed", t.bestVenue(0, NONE), NONE);
        Expect.same("bestVenue(0, 0), who is there", t.bestVenue(0, 0), 0);
        Expect.same("bestVenue(0, 1), who is elsewhere", t.bestVenue(0, 1), NONE);
    }
}
