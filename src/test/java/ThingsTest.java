/** Promises 1 to 9: a new tour, and what there is in it. */
public final class ThingsTest {
    private static final int LOW = Integer.MIN_VALUE;
    private static final int HIGH = Integer.MAX_VALUE;

    public static void main(String[] args) {
        newTour();
        addVenueNumbersAndRanges();
        addVenueHasNoWays();
        setClimate();
        setClimateActsOnCrates();
        setWay();
        setWayActsOnLegs();
        setLender();
        setWayRate();
        addCourier();
        addCrate();
        addWork();
        Expect.done("ThingsTest");
    }

    private static void newTour() {
        CrateTour t = new CrateTour();
        Expect.same("NONE", CrateTour.NONE, -1);
        Expect.row("whole() of a new tour", Scenes.whole(t), 0, 0, 0, 0, 0, 0, 0, 0, 0, 0);
        long h = 43003;
        for (int i = 0; i < 12; i++) {
            h *= 31;
        }
        Expect.same("digest() of a new tour", t.digest(), h);
        Expect.refuses("undo() of a new tour", Expect.STATE, t, t::undo);
        Expect.refuses("venue(0, 0) of a new tour", Expect.INDEX, t, () -> t.venue(0, 0));
        Expect.refuses("crate(0, 0) of a new tour", Expect.INDEX, t, () -> t.crate(0, 0));
        Expect.refuses("work(0, 0) of a new tour", Expect.INDEX, t, () -> t.work(0, 0));
        Expect.refuses("courier(0) of a new tour", Expect.INDEX, t, () -> t.courier(0));
        Expect.same("clearCommands() of a new tour", t.clearCommands(), 0);
        Expect.same("advance(240) of a new tour", t.advance(240), 0);
        Expect.same("time behind it", t.whole(0), 240);
        CrateTour other = new CrateTour();
        Expect.same("time of another tour", other.whole(0), 0);
    }

    private static void addVenueNumbersAndRanges() {
        CrateTour t = new CrateTour();
        int[][] wrong = {
            {-11, 50, 10, 10}, {41, 50, 10, 10}, {LOW, 50, 10, 10}, {HIGH, 50, 10, 10},
            {20, 19, 10, 10}, {20, 91, 10, 10}, {20, LOW, 10, 10}, {20, HIGH, 10, 10},
            {20, 50, -1, 10}, {20, 50, 501, 10}, {20, 50, LOW, 10}, {20, 50, HIGH, 10},
            {20, 50, 10, -1}, {20, 50, 10, 10_000_001}, {20, 50, 10, LOW}, {20, 50, 10, HIGH}};
        for (int[] n : wrong) {
            Expect.refuses("addVenue with " + java.util.Arrays.toString(n), Expect.ARGUMENT, t,
                    () -> t.addVenue(n[0], n[1], n[2], n[3]));
        }
        Expect.same("first addVenue", t.addVenue(-10, 20, 0, 0), 0);
        Expect.same("second addVenue", t.addVenue(40, 90, 500, 10_000_000), 1);
        Expect.row("venue 0", Scenes.venue(t, 0), -10, 20, 0, 0, 0, 0, 0, 0, 0);
        Expect.row("venue 1", Scenes.venue(t, 1), 40, 90, 500, 10_000_000, 0, 0, 0, 0, 0);
        Expect.undoable("third addVenue", t, () -> t.addVenue(21, 51, 11, 111));
        Expect.row("venue 2", Scenes.venue(t, 2), 21, 51, 11, 111, 0, 0, 0, 0, 0);
        for (int number = 3; number < 8; number++) {
            Expect.same("addVenue", t.addVenue(20, 50, 10, 10), number);
        }
        Expect.refuses("ninth addVenue", Expect.STATE, t, () -> t.addVenue(20, 50, 10, 10));
        for (int[] n : wrong) {
            Expect.refuses("ninth addVenue out of range", Expect.ARGUMENT, t,
                    () -> t.addVenue(n[0], n[1], n[2], n[3]));
        }
        Expect.same("venues", t.whole(1), 8);
    }

    private static void addVenueHasNoWays() {
        CrateTour t = new CrateTour();
        t.addVenue(20, 50, 10, 10);
        t.addVenue(20, 50, 10, 10);
        Expect.same("first setWay(0, 1, 7)", t.setWay(0, 1, 7), 0);
        t.undo();
        t.undo();
        t.addVenue(20, 50, 10, 10);
        Expect.same("setWay(0, 1, 7) to a venue made anew", t.setWay(0, 1, 7), 0);
        t.addVenue(20, 50, 10, 10);
        Expect.same("setWay(2, 0, 3)", t.setWay(2, 0, 3), 0);
        Expect.same("setWay(1, 2, 3)", t.setWay(1, 2, 3), 0);
    }

    private static void setClimate() {
        CrateTour t = new CrateTour();
        Expect.refuses("setClimate(0, ..) without venues", Expect.INDEX, t, () -> t.setClimate(0, 20, 50));
        t.addVenue(-10, 20, 7, 8);
        t.addVenue(20, 50, 7, 8);
        Expect.same("setClimate(0, 40, 90)", t.setClimate(0, 40, 90), -9980);
        Expect.same("setClimate(0, -10, 20)", t.setClimate(0, -10, 20), 40_090);
        Expect.undoable("setClimate(0, 0, 33)", t, () -> t.setClimate(0, 0, 33));
        Expect.undoable("setClimate(0, 0, 33) again", t, () -> t.setClimate(0, 0, 33));
        Expect.row("venue 0", Scenes.venue(t, 0), 0, 33, 7, 8, 0, 0, 0, 0, 0);
        Expect.row("venue 1", Scenes.venue(t, 1), 20, 50, 7, 8, 0, 0, 0, 0, 0);
        for (int venue : new int[] {-1, 2, LOW, HIGH}) {
            Expect.refuses("setClimate of no venue", Expect.INDEX, t, () -> t.setClimate(venue, 20, 50));
            Expect.refuses("setClimate of no venue, out of range", Expect.INDEX, t,
                    () -> t.setClimate(venue, 41, 91));
        }
        int[][] wrong = {{-11, 50}, {41, 50}, {20, 19}, {20, 91}, {LOW, 50}, {HIGH, 50}, {20, LOW}, {20, HIGH}};
        for (int[] n : wrong) {
            Expect.refuses("setClimate out of range", Expect.ARGUMENT, t,
                    () -> t.setClimate(1, n[0], n[1]));
        }
    }

    private static void setClimateActsOnCrates() {
        CrateTour t = Scenes.closedCrate();
        t.addCrate(0, 1);
        t.setClimate(0, 17, 41);
        Expect.same("temperature in a closed crate", t.crate(0, 6), 20);
        Expect.same("humidity in a closed crate", t.crate(0, 7), 50);
        Expect.same("hours that it needs: 2 * (12 + 9) / 10", t.crate(0, 9), 4);
        Expect.same("temperature in an open crate", t.crate(1, 6), 17);
        Expect.same("humidity in an open crate", t.crate(1, 7), 41);
    }

    private static void setWay() {
        CrateTour t = new CrateTour();
        t.addVenue(20, 50, 7, 8);
        t.addVenue(20, 50, 7, 8);
        t.addVenue(20, 50, 7, 8);
        Expect.same("setWay(0, 1, 200)", t.setWay(0, 1, 200), 0);
        Expect.same("setWay(1, 0, 1)", t.setWay(1, 0, 1), 200);
        Expect.same("setWay(0, 1, 0)", t.setWay(0, 1, 0), 1);
        Expect.same("setWay(1, 0, 5)", t.setWay(1, 0, 5), 0);
        Expect.same("setWay(1, 2, 6)", t.setWay(1, 2, 6), 0);
        Expect.same("setWay(0, 2, 0) that was none", t.setWay(0, 2, 0), 0);
        Expect.undoable("setWay(2, 0, 9)", t, () -> t.setWay(2, 0, 9));
        Expect.same("undo()", t.undo(), 3);
        Expect.same("setWay(0, 2, 4) behind the undo()", t.setWay(0, 2, 4), 0);
        for (int no : new int[] {-1, 3, LOW, HIGH}) {
            Expect.refuses("setWay(" + no + ", 1, 5)", Expect.INDEX, t, () -> t.setWay(no, 1, 5));
            Expect.refuses("setWay(1, " + no + ", 5)", Expect.INDEX, t, () -> t.setWay(1, no, 5));
            Expect.refuses("setWay(" + no + ", " + no + ", 5)", Expect.INDEX, t, () -> t.setWay(no, no, 5));
            Expect.refuses("setWay(0, " + no + ", 201)", Expect.INDEX, t, () -> t.setWay(0, no, 201));
        }
        for (int hours : new int[] {-1, 201, LOW, HIGH}) {
            Expect.refuses("setWay(0, 1, " + hours + ")", Expect.ARGUMENT, t, () -> t.setWay(0, 1, hours));
        }
        Expect.refuses("setWay(1, 1, 5)", Expect.ARGUMENT, t, () -> t.setWay(1, 1, 5));
        Expect.refuses("setWay(1, 1, 0)", Expect.ARGUMENT, t, () -> t.setWay(1, 1, 0));
        Expect.same("the way of before", t.setWay(0, 1, 0), 5);
    }

    private static void setWayActsOnLegs() {
        CrateTour t = Scenes.closedCrate();
        Expect.same("refusal without a way", t.refusal(0, 2, -1), 4);
        t.setWay(2, 0, 8);
        Expect.same("refusal with a way", t.refusal(0, 2, -1), 0);
        Expect.same("send(0, 2, NONE)", t.send(0, 2, -1), 8);
        t.setWay(0, 2, 3);
        Expect.same("arrival behind a change of the way", t.crate(0, 5), 8);
        t.setWay(0, 2, 0);
        Expect.same("advance(7)", t.advance(7), 0);
        Expect.same("advance(1)", t.advance(1), 1);
        Expect.same("the crate is there", t.crate(0, 3), 2);
    }

    private static void setLender() {
        CrateTour t = new CrateTour();
        int[] first = {-10, 40, 90, 0};
        int[] least = {-10, -10, 20, 0};
        int[] greatest = {40, 40, 90, 255};
        for (int lender = 0; lender < 6; lender++) {
            for (int what = 0; what < 4; what++) {
                String call = "setLender(" + lender + ", " + what + ", ";
                Expect.same(call + "least)", t.setLender(lender, what, least[what]), first[what]);
                Expect.same(call + "greatest)", t.setLender(lender, what, greatest[what]), least[what]);
                Expect.same(call + "between)", t.setLender(lender, what, 30), greatest[what]);
            }
        }
        for (int lender = 0; lender < 6; lender++) {
            for (int what = 0; what < 4; what++) {
                Expect.same("setLender, the value set above", t.setLender(lender, what, 31), 30);
                refuseLender(t, lender, what, least[what] - 1);
                refuseLender(t, lender, what, greatest[what] + 1);
                refuseLender(t, lender, what, LOW);
                refuseLender(t, lender, what, HIGH);
            }
        }
        for (int no : new int[] {-1, 6, LOW, HIGH}) {
            refuseLender(t, no, 0, 20);
        }
        for (int no : new int[] {-1, 4, LOW, HIGH}) {
            refuseLender(t, 0, no, 20);
        }
        Expect.undoable("setLender(2, 1, -5)", t, () -> t.setLender(2, 1, -5));
        t.undo();
        Expect.same("setLender(2, 1, 9) behind the undo()", t.setLender(2, 1, 9), 31);
        Expect.undoable("setLender(2, 1, 9) again", t, () -> t.setLender(2, 1, 9));
    }

    private static void refuseLender(CrateTour t, int lender, int what, int value) {
        Expect.refuses("setLender(" + lender + ", " + what + ", " + value + ")", Expect.ARGUMENT, t,
                () -> t.setLender(lender, what, value));
    }

    private static void setWayRate() {
        CrateTour t = new CrateTour();
        Expect.same("first setWayRate(0)", t.setWayRate(0), 100);
        Expect.same("setWayRate(5000)", t.setWayRate(5000), 0);
        Expect.same("setWayRate(70)", t.setWayRate(70), 5000);
        for (int rate : new int[] {-1, 5001, LOW, HIGH}) {
            Expect.refuses("setWayRate(" + rate + ")", Expect.ARGUMENT, t, () -> t.setWayRate(rate));
        }
        Expect.undoable("setWayRate(71)", t, () -> t.setWayRate(71));
        Expect.same("undo()", t.undo(), 3);
        Expect.same("setWayRate(72) behind the undo()", t.setWayRate(72), 70);
    }

    private static void addCourier() {
        CrateTour t = new CrateTour();
        Expect.refuses("addCourier(0) without venues", Expect.INDEX, t, () -> t.addCourier(0));
        t.addVenue(20, 50, 7, 8);
        t.addVenue(20, 50, 7, 8);
        for (int no : new int[] {-1, 2, LOW, HIGH}) {
            Expect.refuses("addCourier(" + no + ")", Expect.INDEX, t, () -> t.addCourier(no));
        }
        Expect.same("first addCourier(1)", t.addCourier(1), 0);
        Expect.undoable("second addCourier(0)", t, () -> t.addCourier(0));
        Expect.same("third addCourier(1)", t.addCourier(1), 2);
        Expect.same("fourth addCourier(1)", t.addCourier(1), 3);
        Expect.refuses("fifth addCourier(1)", Expect.STATE, t, () -> t.addCourier(1));
        Expect.refuses("fifth addCourier(2)", Expect.INDEX, t, () -> t.addCourier(2));
        Expect.same("courier(0)", t.courier(0), 1);
        Expect.same("courier(1)", t.courier(1), 0);
        Expect.same("couriers", t.whole(4), 4);
    }

    private static void addCrate() {
        CrateTour t = new CrateTour();
        Expect.refuses("addCrate(0, 1) without venues", Expect.INDEX, t, () -> t.addCrate(0, 1));
        t.addVenue(20, 50, 7, 8);
        t.addVenue(21, 51, 7, 8);
        for (int no : new int[] {-1, 2, LOW, HIGH}) {
            Expect.refuses("addCrate(" + no + ", 1)", Expect.INDEX, t, () -> t.addCrate(no, 1));
            Expect.refuses("addCrate(" + no + ", 5)", Expect.INDEX, t, () -> t.addCrate(no, 5));
        }
        for (int no : new int[] {0, 5, -1, LOW, HIGH}) {
            Expect.refuses("addCrate(0, " + no + ")", Expect.ARGUMENT, t, () -> t.addCrate(0, no));
        }
        t.advance(5);
        Expect.same("first addCrate(1, 4)", t.addCrate(1, 4), 0);
        Expect.row("crate 0", Scenes.crate(t, 0), 4, 1, -1, 1, -1, -1, 21, 51, -1, -1, 0, 0, 0, 1);
        Expect.undoable("second addCrate(0, 1)", t, () -> t.addCrate(0, 1));
        Expect.row("crate 1", Scenes.crate(t, 1), 1, 1, -1, 0, -1, -1, 20, 50, -1, -1, 0, 0, 0, 1);
        for (int number = 2; number < 12; number++) {
            Expect.same("addCrate(0, 2)", t.addCrate(0, 2), number);
        }
        Expect.refuses("13th addCrate(0, 2)", Expect.STATE, t, () -> t.addCrate(0, 2));
        Expect.refuses("13th addCrate(0, 5)", Expect.ARGUMENT, t, () -> t.addCrate(0, 5));
        Expect.refuses("13th addCrate(2, 5)", Expect.INDEX, t, () -> t.addCrate(2, 5));
        Expect.same("crates", t.whole(2), 12);
    }

    private static void addWork() {
        CrateTour t = new CrateTour();
        Expect.refuses("addWork without venues", Expect.INDEX, t, () -> t.addWork(0, 0, 1, 0, false));
        t.addVenue(20, 50, 7, 8);
        t.addVenue(21, 51, 7, 8);
        for (int no : new int[] {-1, 2, LOW, HIGH}) {
            Expect.refuses("addWork(" + no + ", ..)", Expect.INDEX, t, () -> t.addWork(no, 0, 1, 0, false));
            Expect.refuses("addWork(" + no + ", 6, ..)", Expect.INDEX, t, () -> t.addWork(no, 6, 0, 21, false));
        }
        int[][] wrong = {{-1, 1, 0}, {6, 1, 0}, {LOW, 1, 0}, {HIGH, 1, 0}, {0, 0, 0}, {0, -1, 0},
            {0, 1_000_001, 0}, {0, LOW, 0}, {0, HIGH, 0}, {0, 1, -1}, {0, 1, 21}, {0, 1, LOW}, {0, 1, HIGH}};
        for (int[] n : wrong) {
            Expect.refuses("addWork with " + java.util.Arrays.toString(n), Expect.ARGUMENT, t,
                    () -> t.addWork(0, n[0], n[1], n[2], true));
        }
        t.advance(48);
        Expect.same("first addWork", t.addWork(1, 5, 1_000_000, 20, true), 0);
        Expect.row("work 0", Scenes.work(t, 0), 5, 1_000_000, 20, 1, -1, 1, 0, 0);
        Expect.row("places of work 0", Scenes.noted(t, 0), -1, -1, -1, -1, -1, -1, -1, -1, -1, -1);
        Expect.undoable("second addWork", t, () -> t.addWork(0, 0, 1, 0, false));
        Expect.row("work 1", Scenes.work(t, 1), 0, 1, 0, 0, -1, 0, 0, 0);
        for (int number = 2; number < 16; number++) {
            Expect.same("addWork", t.addWork(0, 3, 9, 9, false), number);
        }
        Expect.refuses("17th addWork", Expect.STATE, t, () -> t.addWork(0, 3, 9, 9, false));
        for (int[] n : wrong) {
            Expect.refuses("17th addWork out of range", Expect.ARGUMENT, t,
                    () -> t.addWork(0, n[0], n[1], n[2], true));
        }
        Expect.refuses("17th addWork at no venue", Expect.INDEX, t, () -> t.addWork(2, 6, 9, 9, false));
        Expect.same("works", t.whole(3), 16);
    }
}
