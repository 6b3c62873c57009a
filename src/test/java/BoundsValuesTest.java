/** Promises 19 to 24: each sentence that names a boundary, in a test of its own, with the document's words. */
public final class BoundsValuesTest {
    private static final int LOW = Twin.LOW;
    private static final int HIGH = Twin.HIGH;
    private static final int NONE = CrateTour.NONE;

    public static void main(String[] args) {
        Expect.all(BoundsValuesTest.class);
        Expect.done("BoundsValuesTest");
    }

    // ---- crate

    /** "if there is no such crate" */
    private static void crateOfNoNumber() {
        for (int what : new int[] {0, 2, 13}) {
            Twin.refuses("crate(.., " + what + ")", Expect.INDEX, Scenes::busy, (t, crate) -> t.crate(crate, what),
                    -1, 10, 12, LOW, HIGH);
        }
        Expect.same("crate(9, 0), the last one", Scenes.busy().crate(9, 0), 2);
        Expect.same("crate(11, 0), the last of all", Scenes.full().crate(11, 0), 4);
    }

    /** "if what is out of range": 0 to 13 */
    private static void crateWhat() {
        for (int crate : new int[] {0, 5, 9}) {
            Twin.refuses("crate(" + crate + ", ..)", Expect.ARGUMENT, Scenes::busy,
                    (t, what) -> t.crate(crate, what), -1, 14, LOW, HIGH);
        }
        Expect.same("crate(0, 0)", Scenes.busy().crate(0, 0), 2);
        Expect.same("crate(0, 13)", Scenes.busy().crate(0, 13), 1);
    }

    /** Of no crate and a range that is left, the crate comes first. */
    private static void crateOfNoNumberAndOutOfRange() {
        Twin.refuses("crate(.., 14)", Expect.INDEX, Scenes::busy, (t, crate) -> t.crate(crate, 14), -1, 10);
        Twin.refuses("crate(.., -1)", Expect.INDEX, Scenes::busy, (t, crate) -> t.crate(crate, -1), -1, 10);
    }

    /** What a crate tells changes nothing, for each value and each kind of crate. */
    private static void crateChangesNothing() {
        int[][] due = {
            {2, 0, NONE, 0, NONE, NONE, 20, 50, 0, 0, 2, 1, 2001, 1},
            {2, 1, NONE, 0, NONE, NONE, 20, 50, NONE, NONE, 3, 2, 3009, 1},
            {2, 0, NONE, NONE, 1, 75, 20, 50, 0, NONE, 2, 1, 2011, 0},
            {2, 0, 5, NONE, 1, 75, 20, 50, 0, NONE, 1, 0, 1006, 0}};
        int[] crates = {0, 2, 5, 6};
        for (int i = 0; i < crates.length; i++) {
            for (int what = 0; what < 14; what++) {
                int crate = crates[i];
                int one = what;
                Twin.tells("crate(" + crate + ", " + what + ")", Scenes::busy, t -> t.crate(crate, one), due[i][what]);
            }
        }
    }

    /** "2 crate in which it is (NONE without one)": the first crate, 0, is one. */
    private static void crateInWhichItIs() {
        CrateTour t = Scenes.busy();
        Expect.same("crate(1, 2), in crate 0", t.crate(1, 2), 0);
        Expect.same("crate(0, 2), in none", t.crate(0, 2), NONE);
        Expect.same("crate(5, 2), in none and on its way", t.crate(5, 2), NONE);
        Expect.same("crate(10, 2), in the last one", Scenes.twelveNestedCrates().crate(10, 2), 11);
    }

    /** "3 venue of the outermost crate around it, or of itself (NONE if on the way)": the first venue, 0, is one. */
    private static void crateVenue() {
        CrateTour t = Scenes.busy();
        Expect.same("crate(0, 3)", t.crate(0, 3), 0);
        Expect.same("crate(1, 3), in crate 0", t.crate(1, 3), 0);
        Expect.same("crate(8, 3)", t.crate(8, 3), 1);
        Expect.same("crate(5, 3), on its way", t.crate(5, 3), NONE);
        Expect.same("crate(6, 3), in one on its way", t.crate(6, 3), NONE);
        Expect.same("crate(7, 3), at the last venue", Scenes.full().crate(7, 3), 7);
        CrateTour deep = Scenes.twelveNestedCrates();
        Expect.same("crate(0, 3), twelve deep", deep.crate(0, 3), 0);
        deep.send(11, 1, NONE);
        Expect.same("crate(0, 3), twelve deep on its way", deep.crate(0, 3), NONE);
    }

    /** "4 venue to which that is on its way, 5 time at which that arrives (4, 5: NONE if not on the way)" */
    private static void crateGoalAndArrival() {
        for (int crate = 0; crate < 10; crate++) {
            boolean sent = crate == 5 || crate == 6;
            CrateTour t = Scenes.busy();
            Expect.same("crate(" + crate + ", 4)", t.crate(crate, 4), sent ? 1 : NONE);
            Expect.same("crate(" + crate + ", 5)", t.crate(crate, 5), sent ? 75 : NONE);
            t.advance(24);
            Expect.same("crate(" + crate + ", 4) the hour before", t.crate(crate, 4), sent ? 1 : NONE);
            Expect.same("crate(" + crate + ", 5) the hour before", t.crate(crate, 5), sent ? 75 : NONE);
            t.advance(1);
            Expect.same("crate(" + crate + ", 4) at the arrival", t.crate(crate, 4), NONE);
            Expect.same("crate(" + crate + ", 5) at the arrival", t.crate(crate, 5), NONE);
        }
        CrateTour back = Scenes.busy();
        back.advance(25);
        back.send(5, 0, 1);
        Expect.same("crate(6, 4), on its way to the first venue", back.crate(6, 4), 0);
        Expect.same("crate(6, 5)", back.crate(6, 5), 105);
    }

    /** "6 temperature and 7 humidity in it (of an open crate that of its venue)", also of one in open ones. */
    private static void crateClimate() {
        CrateTour t = Scenes.busy();
        t.setClimate(0, -10, 20);
        climate(t, 0, 20, 50);
        climate(t, 1, 20, 50);
        climate(t, 2, -10, 20);
        climate(t, 3, 20, 50);
        climate(t, 4, -10, 20);
        climate(t, 5, 20, 50);
        climate(t, 7, 30, 40);
        climate(t, 8, 10, 40);
        t.close(4);
        t.setClimate(0, 40, 90);
        climate(t, 4, -10, 20);
        climate(t, 2, 40, 90);
        t.advance(25);
        climate(t, 5, 20, 50);
    }

    private static void climate(CrateTour t, int crate, int temperature, int humidity) {
        Expect.same("crate(" + crate + ", 6)", t.crate(crate, 6), temperature);
        Expect.same("crate(" + crate + ", 7)", t.crate(crate, 7), humidity);
    }

    /** "8 time since which it waits, 9 hours that it needs (8, 9: NONE if it is open; 9: NONE if on the way)" */
    private static void crateWaits() {
        int[] since = {0, 0, NONE, 0, NONE, 0, 0, NONE, 45, NONE};
        int[] hours = {0, 0, NONE, 0, NONE, NONE, NONE, NONE, 16, NONE};
        CrateTour t = Scenes.busy();
        for (int crate = 0; crate < 10; crate++) {
            Expect.same("crate(" + crate + ", 8)", t.crate(crate, 8), since[crate]);
            Expect.same("crate(" + crate + ", 9)", t.crate(crate, 9), hours[crate]);
        }
        t.advance(25);
        Expect.same("crate(5, 8) at its arrival", t.crate(5, 8), 75);
        Expect.same("crate(5, 9) at its arrival: 2 * (40 + 10) / 10", t.crate(5, 9), 10);
        Expect.same("crate(6, 8), in that", t.crate(6, 8), 0);
        Expect.same("crate(6, 9), in that", t.crate(6, 9), 10);
    }

    /** "10 number of works in it or below it": none, and all. */
    private static void crateWorks() {
        CrateTour t = sixteenInTwelve();
        Expect.same("crate(0, 10)", t.crate(0, 10), 16);
        Expect.same("crate(11, 10)", t.crate(11, 10), 5);
        Expect.same("crate(9, 10) of an empty one", Scenes.busy().crate(9, 10), 0);
    }

    /** Crate 0 is the outermost of twelve; works 0 to 11 are in the crates with their numbers, the others in 11. */
    private static CrateTour sixteenInTwelve() {
        CrateTour t = Scenes.threeVenues();
        for (int i = 0; i < 12; i++) {
            t.addCrate(0, 1);
        }
        for (int i = 0; i < 16; i++) {
            t.addWork(0, 0, 1_000_000, 20, false);
            t.pack(i, Math.min(i, 11));
        }
        for (int i = 11; i >= 0; i--) {
            t.close(i);
            if (i > 0) {
                t.nest(i, i - 1);
            }
        }
        return t;
    }

    /** "11 number of crates below it": none, and all others. */
    private static void crateCratesBelow() {
        CrateTour t = sixteenInTwelve();
        for (int crate = 0; crate < 12; crate++) {
            Expect.same("crate(" + crate + ", 11)", t.crate(crate, 11), 11 - crate);
        }
        Expect.same("crate(2, 11) with two side by side", Scenes.busy().crate(2, 11), 2);
        Expect.same("crate(9, 11) of an empty one", Scenes.busy().crate(9, 11), 0);
    }

    /** "12 sum of the values of the works in it or below it": 0, and 16 millions. */
    private static void crateValues() {
        CrateTour t = sixteenInTwelve();
        Expect.same("crate(0, 12)", t.crate(0, 12), 16_000_000);
        Expect.same("crate(11, 12)", t.crate(11, 12), 5_000_000);
        Expect.same("crate(9, 12) of an empty one", Scenes.busy().crate(9, 12), 0);
    }

    /** "13 1 if it is within reach or 0 if not": "in no crate and at a venue, or in a crate that is open and .." */
    private static void crateWithinReach() {
        int[] reach = {1, 0, 1, 1, 1, 0, 0, 1, 1, 1};
        for (int crate = 0; crate < 10; crate++) {
            Expect.same("crate(" + crate + ", 13)", Scenes.busy().crate(crate, 13), reach[crate]);
        }
        CrateTour t = Scenes.twelveNestedCrates();
        for (int crate = 11; crate >= 0; crate--) {
            Expect.same("crate(" + crate + ", 13), those around it open", t.crate(crate, 13), 1);
            if (crate > 0) {
                Expect.same("crate(" + (crate - 1) + ", 13)", t.crate(crate - 1, 13), 0);
            }
            t.open(crate);
        }
        t.close(0);
        Expect.same("crate(0, 13), closed in eleven open ones", t.crate(0, 13), 1);
        CrateTour sent = Scenes.busy();
        sent.advance(25);
        Expect.same("crate(5, 13) at its arrival", sent.crate(5, 13), 1);
        Expect.same("crate(6, 13) in that", sent.crate(6, 13), 0);
    }

    // ---- work

    /** "if there is no such work" */
    private static void workOfNoNumber() {
        for (int what : new int[] {0, 4, 7}) {
            Twin.refuses("work(.., " + what + ")", Expect.INDEX, Scenes::busy, (t, work) -> t.work(work, what),
                    -1, 9, 16, LOW, HIGH);
        }
        Expect.same("work(8, 1), the last one", Scenes.busy().work(8, 1), 1008);
        Expect.same("work(15, 1), the last of all", Scenes.full().work(15, 1), 16_000);
    }

    /** "if what is out of range": 0 to 7 */
    private static void workWhat() {
        Twin.refuses("work(0, ..)", Expect.ARGUMENT, Scenes::busy, (t, what) -> t.work(0, what), -1, 8, LOW, HIGH);
        Twin.refuses("work(8, ..)", Expect.ARGUMENT, Scenes::busy, (t, what) -> t.work(8, what), -1, 8);
        Expect.same("work(5, 0)", Scenes.busy().work(5, 0), 5);
        Expect.same("work(5, 7): 1 for the first day, 30 for the second", Scenes.busy().work(5, 7), 31);
    }

    /** Of no work and a range that is left, the work comes first. */
    private static void workOfNoNumberAndOutOfRange() {
        Twin.refuses("work(.., 8)", Expect.INDEX, Scenes::busy, (t, work) -> t.work(work, 8), -1, 9);
        Twin.refuses("work(.., -1)", Expect.INDEX, Scenes::busy, (t, work) -> t.work(work, -1), -1, 9);
    }

    /** What a work tells changes nothing, for each value and each kind of work. */
    private static void workChangesNothing() {
        int[][] due = {{0, 1000, 9, 0, 0, 0, 1, 2}, {4, 1004, 9, 0, 4, 0, 2, 2}, {5, 1005, 9, 1, 5, NONE, 1, 31},
            {0, 1006, 9, 0, 6, NONE, 2, 31}, {1, 1007, 9, 0, NONE, 0, 0, 2}, {2, 1008, 9, 0, NONE, 1, 0, 4}};
        int[] works = {0, 4, 5, 6, 7, 8};
        for (int i = 0; i < works.length; i++) {
            for (int what = 0; what < 8; what++) {
                int work = works[i];
                int one = what;
                Twin.tells("work(" + work + ", " + what + ")", Scenes::busy, t -> t.work(work, one), due[i][what]);
            }
        }
    }

    /** "4 crate (NONE without one)": the first crate, 0, is one. */
    private static void workCrate() {
        CrateTour t = Scenes.full();
        Expect.same("work(0, 4) in none", t.work(0, 4), NONE);
        t.pack(0, 0);
        Expect.same("work(0, 4) in the first crate", t.work(0, 4), 0);
        t.pack(3, 11);
        Expect.same("work(3, 4) in the last crate", t.work(3, 4), 11);
        t.unpack(0);
        Expect.same("work(0, 4) in none again", t.work(0, 4), NONE);
    }

    /** "5 venue (NONE if on the way)": of the work, or of the outermost crate around it. */
    private static void workVenue() {
        int[] venues = {0, 0, 0, 0, 0, NONE, NONE, 0, 1};
        CrateTour t = Scenes.busy();
        for (int work = 0; work < 9; work++) {
            Expect.same("work(" + work + ", 5)", t.work(work, 5), venues[work]);
        }
        t.advance(24);
        Expect.same("work(6, 5) the hour before its arrival", t.work(6, 5), NONE);
        t.advance(1);
        Expect.same("work(6, 5) at its arrival", t.work(6, 5), 1);
        Expect.same("work(15, 5) at the last venue", Scenes.full().work(15, 5), 7);
    }

    /** "6 number of crates around it": none, and all. */
    private static void workCratesAround() {
        CrateTour t = Scenes.twelveNestedCrates();
        t.addWork(0, 0, 1, 0, false);
        for (int work = 0; work < 12; work++) {
            Expect.same("work(" + work + ", 6)", t.work(work, 6), 12 - work);
        }
        Expect.same("work(12, 6) in none", t.work(12, 6), 0);
        Expect.same("work(4, 6), open ones counted too", Scenes.busy().work(4, 6), 2);
    }

    // ---- noted

    /** "if there is no such work" */
    private static void notedOfNoNumber() {
        Twin.refuses("noted(.., 0)", Expect.INDEX, Scenes::busy, (t, work) -> t.noted(work, 0), -1, 9, 16, LOW, HIGH);
        Twin.refuses("noted(.., 99)", Expect.INDEX, Scenes::busy, (t, work) -> t.noted(work, 99), -1, 9);
        Expect.same("noted(8, 0), the last one", Scenes.busy().noted(8, 0), 1);
    }

    /** "if back is negative": nothing is too large. */
    private static void notedBack() {
        Twin.refuses("noted(0, ..)", Expect.ARGUMENT, Scenes::busy, (t, back) -> t.noted(0, back), -1, -2, LOW);
        for (int back : new int[] {2, 9, 10, 11, 1_000_000, HIGH}) {
            Twin.tells("noted(0, " + back + ")", Scenes::busy, t -> t.noted(0, back), NONE);
        }
    }

    /** Of no work and a back that is negative, the work comes first. */
    private static void notedOfNoNumberAndNegative() {
        Twin.refuses("noted(.., -1)", Expect.INDEX, Scenes::busy, (t, work) -> t.noted(work, -1), -1, 9, LOW, HIGH);
    }

    /** "0 for the latest day that has ended, and so on", "Returns the place, 0 to 8" */
    private static void notedPlaces() {
        Twin.tells("noted(5, 0)", Scenes::busy, t -> t.noted(5, 0), 8);
        Twin.tells("noted(5, 1)", Scenes::busy, t -> t.noted(5, 1), 0);
        Twin.tells("noted(5, 2)", Scenes::busy, t -> t.noted(5, 2), NONE);
        CrateTour t = Scenes.full();
        t.advance(24);
        for (int work = 0; work < 16; work++) {
            Expect.same("noted(" + work + ", 0)", t.noted(work, 0), work % 8);
        }
    }

    /** "The latest 10 places of each work are kept", "NONE if it is not kept": the tenth and the eleventh. */
    private static void notedKeepsTen() {
        CrateTour t = Scenes.threeVenues();
        t.addCrate(0, 1);
        t.addWork(0, 0, 1, 20, false);
        t.pack(0, 0);
        t.close(0);
        for (int day = 1; day <= 9; day++) {
            t.advance(24);
            Expect.same("noted(0, " + (day - 1) + ") of the first day", t.noted(0, day - 1), 0);
            Expect.same("noted(0, " + day + ") before there was a day", t.noted(0, day), NONE);
            if (day == 1) {
                t.send(0, 1, NONE);
            }
        }
        Expect.same("noted(0, 7) of the second day", t.noted(0, 7), 8);
        Expect.same("noted(0, 8) of the first of nine days", t.noted(0, 8), 0);
        t.advance(24);
        Expect.same("noted(0, 9) of the first of ten days", t.noted(0, 9), 0);
        Expect.same("noted(0, 10)", t.noted(0, 10), NONE);
        t.advance(24);
        Expect.same("noted(0, 9) of the second of eleven days", t.noted(0, 9), 8);
        Expect.same("noted(0, 10), which is not kept", t.noted(0, 10), NONE);
        t.advance(24);
        Expect.same("noted(0, 9) of the third of twelve days", t.noted(0, 9), 1);
        Expect.same("noted(0, 10), which is not kept", t.noted(0, 10), NONE);
    }

    /** A work that is added later has no places of the days before. */
    private static void notedOfALaterWork() {
        CrateTour t = Scenes.busy();
        t.addWork(3, 0, 1, 0, false);
        Expect.same("noted(9, 0) of days before it was there", t.noted(9, 0), NONE);
        t.advance(22);
        Expect.same("noted(9, 0) of its first day", t.noted(9, 0), 3);
        Expect.same("noted(9, 1)", t.noted(9, 1), NONE);
    }

    // ---- venue

    /** "if there is no such venue" */
    private static void venueOfNoNumber() {
        for (int what : new int[] {0, 4, 8}) {
            Twin.refuses("venue(.., " + what + ")", Expect.INDEX, Scenes::busy, (t, venue) -> t.venue(venue, what),
                    -1, 4, 8, LOW, HIGH);
        }
        Expect.same("venue(3, 3), the last one", Scenes.busy().venue(3, 3), 3000);
        Expect.same("venue(7, 0), the last of all", Scenes.full().venue(7, 0), 27);
    }

    /** "if what is out of range": 0 to 8 */
    private static void venueWhat() {
        Twin.refuses("venue(0, ..)", Expect.ARGUMENT, Scenes::busy, (t, what) -> t.venue(0, what), -1, 9, LOW, HIGH);
        Twin.refuses("venue(3, ..)", Expect.ARGUMENT, Scenes::busy, (t, what) -> t.venue(3, what), -1, 9);
        Expect.same("venue(0, 0)", Scenes.busy().venue(0, 0), 20);
        Expect.same("venue(0, 8): 8 works on the first day, 6 on the second", Scenes.busy().venue(0, 8), 14);
    }

    /** Of no venue and a range that is left, the venue comes first. */
    private static void venueOfNoNumberAndOutOfRange() {
        Twin.refuses("venue(.., 9)", Expect.INDEX, Scenes::busy, (t, venue) -> t.venue(venue, 9), -1, 4);
        Twin.refuses("venue(.., -1)", Expect.INDEX, Scenes::busy, (t, venue) -> t.venue(venue, -1), -1, 4);
    }

    /** What a venue tells changes nothing, for each value. */
    private static void venueChangesNothing() {
        int[][] due = {{20, 50, 10, 10_000_000, 6017, 0, 3, 1, 14}, {30, 40, 20, 10_000_000, 1008, 2011, 2, 1, 4},
            {25, 60, 0, 10_000_000, 0, 0, 0, 0, 0}, {20, 50, 5, 3000, 0, 0, 0, 0, 0}};
        for (int venue = 0; venue < 4; venue++) {
            for (int what = 0; what < 9; what++) {
                int number = venue;
                int one = what;
                Twin.tells("venue(" + venue + ", " + what + ")", Scenes::busy, t -> t.venue(number, one),
                        due[venue][what]);
            }
        }
    }

    /** "4 sum of the values of the works that are there": none, and 16 millions, in crates or not. */
    private static void venueValuesThere() {
        CrateTour t = sixteenInTwelve();
        Expect.same("venue(0, 4) with all in crates", t.venue(0, 4), 16_000_000);
        Expect.same("venue(1, 4) with none", t.venue(1, 4), 0);
        CrateTour free = new CrateTour();
        free.addVenue(20, 50, 0, 0);
        for (int i = 0; i < 16; i++) {
            free.addWork(0, 0, 1_000_000, 0, false);
        }
        Expect.same("venue(0, 4) with all in none", free.venue(0, 4), 16_000_000);
    }

    /** "5 of those on their way to it": none, and as much as can be sent there. */
    private static void venueValuesOnTheirWay() {
        CrateTour t = Scenes.threeVenues();
        for (int i = 0; i < 10; i++) {
            t.addCrate(0, 1);
            t.addWork(0, 0, 1_000_000, 1, false);
            t.pack(i, i);
            t.close(i);
            Expect.same("venue(1, 5) with " + i, t.venue(1, 5), i * 1_000_000);
            t.send(i, 1, NONE);
        }
        Expect.same("venue(1, 5) with all", t.venue(1, 5), 10_000_000);
        Expect.same("venue(1, 4) with all on their way", t.venue(1, 4), 0);
        Expect.same("venue(0, 4) with all on their way", t.venue(0, 4), 0);
        t.advance(29);
        Expect.same("venue(1, 5) the hour before", t.venue(1, 5), 10_000_000);
        t.advance(1);
        Expect.same("venue(1, 5) at the arrival", t.venue(1, 5), 0);
        Expect.same("venue(1, 4) at the arrival", t.venue(1, 4), 10_000_000);
    }

    /** "6 crates there (those in no crate)": none, twelve, and one that holds all others. */
    private static void venueCrates() {
        CrateTour t = Scenes.threeVenues();
        for (int i = 0; i < 12; i++) {
            Expect.same("venue(0, 6) with " + i, t.venue(0, 6), i);
            t.addCrate(0, 1);
        }
        Expect.same("venue(0, 6) with twelve", t.venue(0, 6), 12);
        CrateTour nested = Scenes.twelveNestedCrates();
        Expect.same("venue(0, 6) with one that holds all others", nested.venue(0, 6), 1);
        nested.send(11, 1, NONE);
        Expect.same("venue(0, 6) when that has left", nested.venue(0, 6), 0);
        Expect.same("venue(1, 6) when that is on its way", nested.venue(1, 6), 0);
        nested.advance(30);
        Expect.same("venue(1, 6) when that has arrived", nested.venue(1, 6), 1);
    }

    /** "7 couriers there": none, and four. */
    private static void venueCouriers() {
        CrateTour t = Scenes.closedCrate();
        for (int i = 0; i < 4; i++) {
            Expect.same("venue(0, 7) with " + i, t.venue(0, 7), i);
            t.addCourier(0);
        }
        Expect.same("venue(0, 7) with four", t.venue(0, 7), 4);
        t.send(0, 1, 3);
        Expect.same("venue(0, 7) when one has left", t.venue(0, 7), 3);
        Expect.same("venue(1, 7) when one is on the way", t.venue(1, 7), 0);
        t.advance(30);
        Expect.same("venue(1, 7) when one has arrived", t.venue(1, 7), 1);
    }

    /** "8 premiums paid so far for works that were noted there": what was paid stays when the works have left. */
    private static void venuePremiums() {
        CrateTour t = Scenes.closedCrate();
        t.advance(23);
        Expect.same("venue(0, 8) before the first day's end", t.venue(0, 8), 0);
        t.advance(1);
        Expect.same("venue(0, 8) of a day", t.venue(0, 8), 200);
        t.send(0, 1, NONE);
        t.advance(48);
        Expect.same("venue(0, 8) when the work has left", t.venue(0, 8), 200);
        Expect.same("venue(1, 8) of a day, one of two being for the way", t.venue(1, 8), 400);
    }

    // ---- courier and whole

    /** "if there is no such courier": NONE is none here. */
    private static void courierOfNoNumber() {
        Twin.refuses("courier", Expect.INDEX, Scenes::busy, CrateTour::courier, -1, 3, 4, LOW, HIGH);
        Twin.refuses("courier", Expect.INDEX, Scenes::full, CrateTour::courier, -1, 4);
        Expect.same("courier(3), the last of all", Scenes.full().courier(3), 3);
    }

    /** "Returns the venue; NONE if on the way": the first venue, 0, is one. */
    private static void courierVenue() {
        Twin.tells("courier(0)", Scenes::busy, t -> t.courier(0), 0);
        Twin.tells("courier(1)", Scenes::busy, t -> t.courier(1), 1);
        Twin.tells("courier(2)", Scenes::busy, t -> t.courier(2), NONE);
    }

    /** "if what is out of range": 0 to 9 */
    private static void wholeWhat() {
        Twin.refuses("whole", Expect.ARGUMENT, Scenes::busy, CrateTour::whole, -1, 10, LOW, HIGH);
        Twin.refuses("whole of a new tour", Expect.ARGUMENT, CrateTour::new, CrateTour::whole, -1, 10);
        Expect.same("whole(9) of a new tour", new CrateTour().whole(9), 0);
    }

    /** What the whole tells changes nothing, for each value. */
    private static void wholeChangesNothing() {
        int[] due = {50, 4, 10, 9, 3, 78, 60, 0, 2, 4};
        for (int what = 0; what < 10; what++) {
            int one = what;
            Twin.tells("whole(" + what + ")", Scenes::busy, t -> t.whole(one), due[what]);
        }
    }

    /** "1 venues, 2 crates, 3 works, 4 couriers": as many as there can be. */
    private static void wholeCountsAll() {
        Expect.row("whole() of all", Scenes.whole(Scenes.full()), 0, 8, 12, 16, 4, 0, 0, 0, 0, 12);
    }

    /** "7 crates that have arrived so far (without those below them)" */
    private static void wholeArrived() {
        CrateTour t = Scenes.twelveNestedCrates();
        t.send(11, 1, NONE);
        t.advance(29);
        Expect.same("whole(7) the hour before", t.whole(7), 0);
        t.advance(1);
        Expect.same("whole(7) at the arrival", t.whole(7), 1);
        t.send(11, 0, NONE);
        t.advance(30);
        Expect.same("whole(7) behind the second one", t.whole(7), 2);
        t.undo();
        Expect.same("whole(7) behind undo()", t.whole(7), 1);
    }

    /** "8 works on their way": none, and as many as can be. */
    private static void wholeWorksOnTheirWay() {
        CrateTour t = Scenes.threeVenues();
        t.addCrate(0, 1);
        for (int i = 0; i < 16; i++) {
            t.addWork(0, 0, 1, 1, false);
            t.pack(i, 0);
        }
        t.close(0);
        Expect.same("whole(8) before the sending", t.whole(8), 0);
        t.send(0, 1, NONE);
        Expect.same("whole(8) on the way", t.whole(8), 16);
        t.advance(29);
        Expect.same("whole(8) the hour before", t.whole(8), 16);
        t.advance(1);
        Expect.same("whole(8) at the arrival", t.whole(8), 0);
    }

    /** "9 open crates": none, and all, in others or not. */
    private static void wholeOpenCrates() {
        CrateTour t = Scenes.twelveNestedCrates();
        Expect.same("whole(9) with none", t.whole(9), 0);
        for (int crate = 11; crate >= 0; crate--) {
            t.open(crate);
            Expect.same("whole(9)", t.whole(9), 12 - crate);
        }
    }
}
