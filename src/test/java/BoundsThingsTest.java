/** Promises 1 to 9: each sentence that names a boundary, in a test of its own, with the document's words. */
public final class BoundsThingsTest {
    private static final int LOW = Twin.LOW;
    private static final int HIGH = Twin.HIGH;
    private static final int NONE = CrateTour.NONE;

    public static void main(String[] args) {
        Expect.all(BoundsThingsTest.class);
        Expect.done("BoundsThingsTest");
    }

    /** "Creates a tour without venues": no number is one of a venue, a crate, a work or a courier. */
    private static void newTourHoldsNothing() {
        for (int no : new int[] {0, NONE, 1, LOW, HIGH}) {
            Twin.refuses("venue(" + no + ", 0)", Expect.INDEX, CrateTour::new, t -> t.venue(no, 0));
            Twin.refuses("crate(" + no + ", 0)", Expect.INDEX, CrateTour::new, t -> t.crate(no, 0));
            Twin.refuses("work(" + no + ", 0)", Expect.INDEX, CrateTour::new, t -> t.work(no, 0));
            Twin.refuses("noted(" + no + ", 0)", Expect.INDEX, CrateTour::new, t -> t.noted(no, 0));
            Twin.refuses("courier(" + no + ")", Expect.INDEX, CrateTour::new, t -> t.courier(no));
            Twin.refuses("readyAt(" + no + ")", Expect.INDEX, CrateTour::new, t -> t.readyAt(no));
            Twin.refuses("allReadyAt(" + no + ")", Expect.INDEX, CrateTour::new, t -> t.allReadyAt(no));
            Twin.refuses("bestVenue(" + no + ", NONE)", Expect.INDEX, CrateTour::new, t -> t.bestVenue(no, NONE));
            Twin.refuses("refusal(" + no + ", 0, NONE)", Expect.INDEX, CrateTour::new,
                    t -> t.refusal(no, 0, NONE));
        }
        Expect.row("whole()", Scenes.whole(new CrateTour()), 0, 0, 0, 0, 0, 0, 0, 0, 0, 0);
    }

    /** "at time 0" */
    private static void newTourIsAtTimeNought() {
        Twin.tells("whole(0)", CrateTour::new, t -> t.whole(0), 0);
        CrateTour t = new CrateTour();
        t.advance(1);
        Expect.same("time an hour later", t.whole(0), 1);
    }

    /** "with an empty command text" */
    private static void newTourHasAnEmptyText() {
        Twin.tells("clearCommands()", CrateTour::new, CrateTour::clearCommands, 0);
        Expect.same("type('w')", new CrateTour().type('w'), 1);
        Expect.same("runCommands()", new CrateTour().runCommands(), 0);
    }

    /** "and an empty undo stack" */
    private static void newTourHasAnEmptyUndoStack() {
        Twin.refuses("undo()", Expect.STATE, CrateTour::new, CrateTour::undo);
        Expect.same("digest()", new CrateTour().digest(), Scenes.digest(new CrateTour(), 0, 0));
    }

    /** A new tour has nothing of one that was made before. */
    private static void newTourIsApartFromOthers() {
        CrateTour first = new CrateTour();
        long digest = first.digest();
        Scenes.full();
        Scenes.busy();
        Expect.same("digest() of the first one", first.digest(), digest);
        Expect.same("digest() of another one", new CrateTour().digest(), digest);
    }

    /** "temperature: -10 to 40", "if an argument is out of range" */
    private static void addVenueTemperature() {
        Twin.range("addVenue: temperature", Expect.ARGUMENT, -10, 40, Scenes::busy,
                (t, value) -> t.addVenue(value, 50, 10, 99), t -> t.venue(4, 0));
    }

    /** "humidity: 20 to 90" */
    private static void addVenueHumidity() {
        Twin.range("addVenue: humidity", Expect.ARGUMENT, 20, 90, Scenes::busy,
                (t, value) -> t.addVenue(20, value, 10, 99), t -> t.venue(4, 1));
    }

    /** "rate: 0 to 500" */
    private static void addVenueRate() {
        Twin.range("addVenue: rate", Expect.ARGUMENT, 0, 500, Scenes::busy,
                (t, value) -> t.addVenue(20, 50, value, 99), t -> t.venue(4, 2));
    }

    /** "cap: 0 to 10000000" */
    private static void addVenueCap() {
        Twin.range("addVenue: cap", Expect.ARGUMENT, 0, 10_000_000, Scenes::busy,
                (t, value) -> t.addVenue(20, 50, 10, value), t -> t.venue(4, 3));
    }

    /** "There are at most 8 venues, numbered from 0", "if there are 8 venues" */
    private static void addVenueEightTimes() {
        CrateTour t = new CrateTour();
        for (int number = 0; number < 8; number++) {
            Expect.same("addVenue", t.addVenue(20, 50, 10, 99), number);
            Expect.same("venues", t.whole(1), number + 1);
        }
        Twin.refuses("ninth addVenue", Expect.STATE, Scenes::full, x -> x.addVenue(20, 50, 10, 99));
    }

    /** Of a ninth venue that is out of range, the range comes first. */
    private static void addVenueNinthAndOutOfRange() {
        Twin.refuses("ninth addVenue: temperature", Expect.ARGUMENT, Scenes::full,
                (t, value) -> t.addVenue(value, 50, 10, 99), -11, 41);
        Twin.refuses("ninth addVenue: humidity", Expect.ARGUMENT, Scenes::full,
                (t, value) -> t.addVenue(20, value, 10, 99), 19, 91);
        Twin.refuses("ninth addVenue: rate", Expect.ARGUMENT, Scenes::full,
                (t, value) -> t.addVenue(20, 50, value, 99), -1, 501);
        Twin.refuses("ninth addVenue: cap", Expect.ARGUMENT, Scenes::full,
                (t, value) -> t.addVenue(20, 50, 10, value), -1, 10_000_001);
    }

    /** "Adds a venue without ways": neither from it nor to it, and not those of a venue that undo() took away. */
    private static void addVenueWithoutWays() {
        for (int other = 0; other < 4; other++) {
            CrateTour t = Scenes.busy();
            t.addVenue(20, 50, 10, 99);
            t.setWay(4, other, 77);
            t.undo();
            t.undo();
            Expect.same("addVenue again", t.addVenue(20, 50, 10, 99), 4);
            Expect.same("setWay(" + other + ", 4, 1)", t.setWay(other, 4, 1), 0);
            Expect.same("setWay(4, " + other + ", 1)", t.setWay(4, other, 1), 1);
        }
    }

    private static void addVenueIsUndoable() {
        Twin.isUndoable("addVenue", Scenes::busy, t -> t.addVenue(20, 50, 10, 99), 4);
    }

    /** "if there is no such venue" */
    private static void setClimateOfNoVenue() {
        Twin.refuses("setClimate", Expect.INDEX, Scenes::busy, (t, value) -> t.setClimate(value, 20, 50),
                -1, 4, 8, LOW, HIGH);
        Expect.same("setClimate of the last venue", Scenes.busy().setClimate(3, 21, 51), 20_050);
        Expect.same("setClimate of the eighth venue", Scenes.full().setClimate(7, 21, 51), 27_050);
        Twin.refuses("setClimate", Expect.INDEX, Scenes::full, (t, value) -> t.setClimate(value, 20, 50), -1, 8);
    }

    /** "temperature: -10 to 40" */
    private static void setClimateTemperature() {
        Twin.range("setClimate: temperature", Expect.ARGUMENT, -10, 40, Scenes::busy,
                (t, value) -> t.setClimate(1, value, 50), t -> t.venue(1, 0));
    }

    /** "humidity: 20 to 90" */
    private static void setClimateHumidity() {
        Twin.range("setClimate: humidity", Expect.ARGUMENT, 20, 90, Scenes::busy,
                (t, value) -> t.setClimate(1, 20, value), t -> t.venue(1, 1));
    }

    /** Of no venue and a range that is left, the venue comes first. */
    private static void setClimateOfNoVenueAndOutOfRange() {
        Twin.refuses("setClimate out of range", Expect.INDEX, Scenes::busy,
                (t, value) -> t.setClimate(value, 41, 50), -1, 4);
        Twin.refuses("setClimate out of range", Expect.INDEX, Scenes::busy,
                (t, value) -> t.setClimate(value, 20, 19), -1, 4);
    }

    /** "Returns 1000 * (previous temperature) + (previous humidity)", below nought too. */
    private static void setClimateReturnsThePrevious() {
        int[][] cases = {{-10, 20, -9980}, {-10, 90, -9910}, {-1, 90, -910}, {0, 20, 20}, {0, 90, 90},
            {1, 20, 1020}, {40, 90, 40_090}};
        for (int[] n : cases) {
            CrateTour t = new CrateTour();
            t.addVenue(n[0], n[1], 0, 0);
            Expect.same("setClimate behind " + n[0] + " and " + n[1], t.setClimate(0, 20, 50), n[2]);
            Expect.same("setClimate once more", t.setClimate(0, n[0], n[1]), 20_050);
            Expect.same("setClimate behind that", t.setClimate(0, n[0], n[1]), n[2]);
        }
    }

    /** "Undoable", "also if it changes nothing" */
    private static void setClimateIsUndoable() {
        Twin.isUndoable("setClimate", Scenes::busy, t -> t.setClimate(0, -10, 90), 20_050);
        Twin.isUndoable("setClimate to what it is", Scenes::busy, t -> t.setClimate(0, 20, 50), 20_050);
    }

    /** "if there is no venue a or b" */
    private static void setWayOfNoVenue() {
        int[] none = {-1, 4, 8, LOW, HIGH};
        Twin.refuses("setWay from venue 0", Expect.INDEX, Scenes::busy, (t, b) -> t.setWay(0, b, 5), none);
        Twin.refuses("setWay to venue 0", Expect.INDEX, Scenes::busy, (t, a) -> t.setWay(a, 0, 5), none);
        Expect.same("setWay between the first and the last", Scenes.busy().setWay(0, 3, 5), 0);
        Expect.same("setWay between the last and the first", Scenes.full().setWay(7, 0, 5), 10);
    }

    /** "if both are the same" */
    private static void setWayOfBothTheSame() {
        Twin.refuses("setWay of both", Expect.ARGUMENT, Scenes::busy, (t, a) -> t.setWay(a, a, 5), 0, 1, 2, 3);
        Twin.refuses("setWay of both, none", Expect.ARGUMENT, Scenes::busy, (t, a) -> t.setWay(a, a, 0), 0, 3);
    }

    /** "or hours is out of range": "1 to 200, or 0 for none" */
    private static void setWayHours() {
        Twin.range("setWay: hours", Expect.ARGUMENT, 0, 200, Scenes::busy, (t, value) -> t.setWay(0, 2, value),
                t -> t.setWay(2, 0, 9));
    }

    /** "0 for none": the last number that is no way, and the first and the last one that are. */
    private static void setWayOfNoughtIsNone() {
        int[][] cases = {{0, 4}, {1, 0}, {200, 0}};
        for (int[] n : cases) {
            CrateTour t = Scenes.busy();
            t.setWay(0, 1, n[0]);
            Expect.same("refusal(0, 1, NONE) with a way of " + n[0], t.refusal(0, 1, NONE), n[1]);
        }
    }

    /** Of no venue and what is wrong otherwise, the venue comes first. */
    private static void setWayOfNoVenueAndWrong() {
        Twin.refuses("setWay of both", Expect.INDEX, Scenes::busy, (t, a) -> t.setWay(a, a, 5), -1, 4);
        Twin.refuses("setWay out of range", Expect.INDEX, Scenes::busy, (t, a) -> t.setWay(a, 0, 201), -1, 4);
        Twin.refuses("setWay out of range", Expect.INDEX, Scenes::busy, (t, b) -> t.setWay(0, b, -1), -1, 4);
    }

    /** "none (at first)", "0 if there was no way" */
    private static void setWayOfNoneReturnsNought() {
        for (int a = 0; a < 8; a++) {
            for (int b = 0; b < 8; b++) {
                if (a != b && a + b != 7) {
                    Expect.same("setWay(" + a + ", " + b + ", 1)", Scenes.full().setWay(a, b, 1), 0);
                }
            }
        }
        CrateTour t = Scenes.busy();
        Expect.same("setWay(0, 1, 0)", t.setWay(0, 1, 0), 30);
        Expect.same("setWay(0, 1, 0) again", t.setWay(0, 1, 0), 0);
    }

    /** "the same in both directions" */
    private static void setWayInBothDirections() {
        CrateTour t = Scenes.busy();
        Expect.same("setWay(1, 0, 200)", t.setWay(1, 0, 200), 30);
        Expect.same("setWay(0, 1, 1)", t.setWay(0, 1, 1), 200);
        Expect.same("setWay(1, 0, 0)", t.setWay(1, 0, 0), 1);
        Expect.same("setWay(0, 1, 5)", t.setWay(0, 1, 5), 0);
        Expect.same("setWay(1, 2, 5), another one", t.setWay(1, 2, 5), 10);
    }

    private static void setWayIsUndoable() {
        Twin.isUndoable("setWay", Scenes::busy, t -> t.setWay(0, 2, 5), 0);
        Twin.isUndoable("setWay to none", Scenes::busy, t -> t.setWay(1, 0, 0), 30);
        Twin.isUndoable("setWay to what it is", Scenes::busy, t -> t.setWay(1, 0, 30), 30);
    }

    /** "lender: 0 to 5" */
    private static void setLenderNumber() {
        Twin.refuses("setLender: lender", Expect.ARGUMENT, Scenes::busy, (t, value) -> t.setLender(value, 0, 7),
                -1, 6, LOW, HIGH);
        for (int lender = 0; lender < 6; lender++) {
            CrateTour t = Scenes.busy();
            t.setLender(lender, 0, 7);
            for (int other = 0; other < 6; other++) {
                int due = other == lender ? 7 : other == 1 ? -5 : -10;
                Expect.same("least temperature of " + other, t.setLender(other, 0, 9), due);
            }
        }
    }

    /** "what: 0 .., 1 .., 2 .., 3 .." */
    private static void setLenderWhat() {
        Twin.refuses("setLender: what", Expect.ARGUMENT, Scenes::busy, (t, value) -> t.setLender(0, value, 30),
                -1, 4, LOW, HIGH);
        for (int what = 0; what < 4; what++) {
            CrateTour t = Scenes.busy();
            t.setLender(0, what, 30);
            int[] first = {-10, 40, 90, 0};
            first[what] = 30;
            for (int other = 0; other < 4; other++) {
                Expect.same("value " + other + " behind value " + what, t.setLender(0, other, 31), first[other]);
            }
        }
    }

    /** "0 least temperature (-10 to 40)" */
    private static void setLenderLeastTemperature() {
        lenderRange(0, -10, 40);
    }

    /** "1 greatest temperature (-10 to 40)" */
    private static void setLenderGreatestTemperature() {
        lenderRange(1, -10, 40);
    }

    /** "2 greatest humidity (20 to 90)" */
    private static void setLenderGreatestHumidity() {
        lenderRange(2, 20, 90);
    }

    /** "3 set of venues (0 to 255)" */
    private static void setLenderSetOfVenues() {
        lenderRange(3, 0, 255);
    }

    private static void lenderRange(int what, int least, int greatest) {
        for (int lender : new int[] {0, 5}) {
            Twin.range("setLender(" + lender + ", " + what + ", ..)", Expect.ARGUMENT, least, greatest,
                    Scenes::busy, (t, value) -> t.setLender(lender, what, value),
                    t -> t.setLender(lender, what, 30));
        }
    }

    /** "it may be below the least one": whichever of the two is set later. */
    private static void setLenderGreatestBelowLeast() {
        CrateTour t = Scenes.busy();
        t.setLender(0, 0, 40);
        Expect.same("setLender(0, 1, -10)", t.setLender(0, 1, -10), 40);
        Expect.same("setLender(0, 0, 39)", t.setLender(0, 0, 39), 40);
        Expect.same("setLender(0, 1, 38)", t.setLender(0, 1, 38), -10);
        Expect.same("setLender(0, 1, 39)", t.setLender(0, 1, 39), 38);
    }

    /** "-10 and 40 at first", "90 at first", "0 at first" */
    private static void setLenderAtFirst() {
        for (int lender = 0; lender < 6; lender++) {
            Expect.same("least temperature", new CrateTour().setLender(lender, 0, 5), -10);
            Expect.same("greatest temperature", new CrateTour().setLender(lender, 1, 5), 40);
            Expect.same("greatest humidity", new CrateTour().setLender(lender, 2, 25), 90);
            Expect.same("set of venues", new CrateTour().setLender(lender, 3, 5), 0);
        }
    }

    private static void setLenderIsUndoable() {
        for (int lender = 0; lender < 6; lender++) {
            int one = lender;
            Twin.isUndoable("setLender(" + lender + ", 0, 7)", Scenes::busy, t -> t.setLender(one, 0, 7),
                    lender == 1 ? -5 : -10);
            Twin.isUndoable("setLender(" + lender + ", 3, 255)", Scenes::busy, t -> t.setLender(one, 3, 255),
                    lender == 2 ? 8 : 0);
        }
        Twin.isUndoable("setLender to what it is", Scenes::busy, t -> t.setLender(2, 3, 8), 8);
    }

    /** "rate: 0 to 5000" */
    private static void setWayRateRange() {
        Twin.range("setWayRate", Expect.ARGUMENT, 0, 5000, Scenes::busy, CrateTour::setWayRate,
                t -> t.setWayRate(77));
    }

    /** "100 at first" */
    private static void setWayRateAtFirst() {
        Expect.same("setWayRate(0) on a new tour", new CrateTour().setWayRate(0), 100);
    }

    private static void setWayRateIsUndoable() {
        Twin.isUndoable("setWayRate(0)", Scenes::busy, t -> t.setWayRate(0), 300);
        Twin.isUndoable("setWayRate to what it is", Scenes::busy, t -> t.setWayRate(300), 300);
    }

    /** "if there is no such venue" */
    private static void addCourierAtNoVenue() {
        Twin.refuses("addCourier", Expect.INDEX, Scenes::busy, CrateTour::addCourier, -1, 4, 8, LOW, HIGH);
        CrateTour t = Scenes.busy();
        Expect.same("addCourier at the last venue", t.addCourier(3), 3);
        Expect.same("courier(3)", t.courier(3), 3);
    }

    /** "There are at most 4 couriers, numbered from 0", "if there are 4 couriers" */
    private static void addCourierFourTimes() {
        CrateTour t = new CrateTour();
        t.addVenue(20, 50, 10, 99);
        for (int number = 0; number < 4; number++) {
            Expect.same("addCourier(0)", t.addCourier(0), number);
            Expect.same("couriers", t.whole(4), number + 1);
        }
        Twin.refuses("fifth addCourier", Expect.STATE, Scenes::full, CrateTour::addCourier, 0, 7);
    }

    /** Of a fifth courier at no venue, the venue comes first. */
    private static void addCourierFifthAtNoVenue() {
        Twin.refuses("fifth addCourier", Expect.INDEX, Scenes::full, CrateTour::addCourier, -1, 8, LOW, HIGH);
    }

    private static void addCourierIsUndoable() {
        Twin.isUndoable("addCourier(2)", Scenes::busy, t -> t.addCourier(2), 3);
    }

    /** "if there is no such venue" */
    private static void addCrateAtNoVenue() {
        Twin.refuses("addCrate", Expect.INDEX, Scenes::busy, (t, venue) -> t.addCrate(venue, 1),
                -1, 4, 8, LOW, HIGH);
        CrateTour t = Scenes.busy();
        Expect.same("addCrate at the last venue", t.addCrate(3, 1), 10);
        Expect.same("its venue", t.crate(10, 3), 3);
    }

    /** "insulation: 1 to 4" */
    private static void addCrateInsulation() {
        Twin.range("addCrate: insulation", Expect.ARGUMENT, 1, 4, Scenes::busy,
                (t, value) -> t.addCrate(0, value), t -> t.crate(10, 0));
    }

    /** "There are at most 12 crates, numbered from 0", "if there are 12 crates" */
    private static void addCrateTwelveTimes() {
        CrateTour t = new CrateTour();
        t.addVenue(20, 50, 10, 99);
        for (int number = 0; number < 12; number++) {
            Expect.same("addCrate(0, 1)", t.addCrate(0, 1), number);
            Expect.same("crates", t.whole(2), number + 1);
        }
        Twin.refuses("13th addCrate", Expect.STATE, Scenes::full, (x, value) -> x.addCrate(0, value), 1, 4);
    }

    /** Of a 13th crate at no venue or of a wrong insulation, these come first, in this order. */
    private static void addCrateThirteenthAndWrong() {
        Twin.refuses("13th addCrate: insulation", Expect.ARGUMENT, Scenes::full,
                (t, value) -> t.addCrate(0, value), 0, 5);
        Twin.refuses("13th addCrate: venue", Expect.INDEX, Scenes::full, (t, venue) -> t.addCrate(venue, 1), -1, 8);
        Twin.refuses("13th addCrate: both", Expect.INDEX, Scenes::full, (t, venue) -> t.addCrate(venue, 0), -1, 8);
        Twin.refuses("addCrate: both", Expect.INDEX, Scenes::busy, (t, venue) -> t.addCrate(venue, 5), -1, 4);
    }

    /** "Adds an open, empty crate at a venue", also in the row of one that undo() took away. */
    private static void addCrateOpenAndEmpty() {
        CrateTour t = Scenes.busy();
        t.addCrate(1, 4);
        t.close(10);
        t.send(10, 0, NONE);
        t.undo();
        t.undo();
        t.undo();
        Expect.same("addCrate(0, 3)", t.addCrate(0, 3), 10);
        Expect.row("crate 10", Scenes.crate(t, 10), 3, 1, NONE, 0, NONE, NONE, 20, 50, NONE, NONE, 0, 0, 0, 1);
    }

    private static void addCrateIsUndoable() {
        Twin.isUndoable("addCrate(2, 4)", Scenes::busy, t -> t.addCrate(2, 4), 10);
    }

    /** "if there is no such venue" */
    private static void addWorkAtNoVenue() {
        Twin.refuses("addWork", Expect.INDEX, Scenes::busy, (t, venue) -> t.addWork(venue, 0, 1, 0, false),
                -1, 4, 8, LOW, HIGH);
        CrateTour t = Scenes.busy();
        Expect.same("addWork at the last venue", t.addWork(3, 0, 1, 0, false), 9);
        Expect.same("its venue", t.work(9, 5), 3);
    }

    /** "lender: 0 to 5" */
    private static void addWorkLender() {
        Twin.range("addWork: lender", Expect.ARGUMENT, 0, 5, Scenes::busy,
                (t, value) -> t.addWork(0, value, 1, 0, false), t -> t.work(9, 0));
    }

    /** "value: 1 to 1000000" */
    private static void addWorkValue() {
        Twin.range("addWork: value", Expect.ARGUMENT, 1, 1_000_000, Scenes::busy,
                (t, value) -> t.addWork(0, 0, value, 0, false), t -> t.work(9, 1));
    }

    /** "legs: 0 to 20" */
    private static void addWorkLegs() {
        Twin.range("addWork: legs", Expect.ARGUMENT, 0, 20, Scenes::busy,
                (t, value) -> t.addWork(0, 0, 1, value, true), t -> t.work(9, 2));
    }

    /** "escorted: whether it needs a courier" */
    private static void addWorkEscorted() {
        CrateTour t = Scenes.busy();
        t.addWork(0, 0, 1, 0, true);
        t.addWork(0, 0, 1, 0, false);
        Expect.same("work(9, 3)", t.work(9, 3), 1);
        Expect.same("work(10, 3)", t.work(10, 3), 0);
    }

    /** "There are at most 16 works, numbered from 0", "if there are 16 works" */
    private static void addWorkSixteenTimes() {
        CrateTour t = new CrateTour();
        t.addVenue(20, 50, 10, 99);
        for (int number = 0; number < 16; number++) {
            Expect.same("addWork", t.addWork(0, 0, 1, 0, false), number);
            Expect.same("works", t.whole(3), number + 1);
        }
        Twin.refuses("17th addWork", Expect.STATE, Scenes::full, x -> x.addWork(0, 0, 1, 0, false));
    }

    /** Of a 17th work at no venue or out of range, these come first, in this order. */
    private static void addWorkSeventeenthAndWrong() {
        Twin.refuses("17th addWork: lender", Expect.ARGUMENT, Scenes::full,
                (t, value) -> t.addWork(0, value, 1, 0, false), -1, 6);
        Twin.refuses("17th addWork: value", Expect.ARGUMENT, Scenes::full,
                (t, value) -> t.addWork(0, 0, value, 0, false), 0, 1_000_001);
        Twin.refuses("17th addWork: legs", Expect.ARGUMENT, Scenes::full,
                (t, value) -> t.addWork(0, 0, 1, value, false), -1, 21);
        Twin.refuses("17th addWork: venue", Expect.INDEX, Scenes::full,
                (t, venue) -> t.addWork(venue, 0, 1, 0, false), -1, 8);
        Twin.refuses("17th addWork: all", Expect.INDEX, Scenes::full,
                (t, venue) -> t.addWork(venue, 6, 0, 21, false), -1, 8);
        Twin.refuses("addWork: venue and lender", Expect.INDEX, Scenes::busy,
                (t, venue) -> t.addWork(venue, 6, 1, 0, false), -1, 4);
        Twin.refuses("addWork: venue and value", Expect.INDEX, Scenes::busy,
                (t, venue) -> t.addWork(venue, 0, 0, 0, false), -1, 4);
        Twin.refuses("addWork: venue and legs", Expect.INDEX, Scenes::busy,
                (t, venue) -> t.addWork(venue, 0, 1, 21, false), -1, 4);
    }

    /** A work that is added has no premiums, no places and no crate, also in the row of one taken away. */
    private static void addWorkIsNew() {
        CrateTour t = Scenes.busy();
        t.addWork(0, 1, 1_000_000, 0, true);
        t.pack(9, 9);
        t.advance(24);
        Expect.same("premiums of the first one", t.work(9, 7), 1000);
        t.undo();
        t.undo();
        t.undo();
        Expect.same("addWork", t.addWork(1, 5, 2, 20, false), 9);
        Expect.row("work 9", Scenes.work(t, 9), 5, 2, 20, 0, NONE, 1, 0, 0);
        Expect.row("places of work 9", Scenes.noted(t, 9),
                NONE, NONE, NONE, NONE, NONE, NONE, NONE, NONE, NONE, NONE);
    }

    private static void addWorkIsUndoable() {
        Twin.isUndoable("addWork", Scenes::busy, t -> t.addWork(2, 5, 1_000_000, 20, true), 9);
    }
}
