/** Promises 25 to 27: forecasts, which change nothing. */
public final class ForecastsTest {
    private static final int LOW = Integer.MIN_VALUE;
    private static final int HIGH = Integer.MAX_VALUE;
    private static final int NONE = CrateTour.NONE;

    public static void main(String[] args) {
        readyAtAVenue();
        readyInOpenCrates();
        readyOnTheWay();
        readyAsItIsDone();
        readyInTwelveCrates();
        allReadyAt();
        bestVenueByClimate();
        bestVenueWithoutWorks();
        bestVenueOfThoseAllowed();
        bestVenueIsAsSent();
        numbers();
        Expect.done("ForecastsTest");
    }

    private static void ready(CrateTour t, int... due) {
        for (int work = 0; work < due.length; work++) {
            int one = work;
            Expect.tells("readyAt(" + work + ") at " + t.whole(0), t, () -> t.readyAt(one), due[work]);
        }
    }

    private static void all(CrateTour t, int... due) {
        for (int crate = 0; crate < due.length; crate++) {
            int one = crate;
            Expect.tells("allReadyAt(" + crate + ") at " + t.whole(0), t, () -> t.allReadyAt(one), due[crate]);
        }
    }

    private static void best(CrateTour t, int crate, int courier, int due) {
        Expect.tells("bestVenue(" + crate + ", " + courier + ")", t, () -> t.bestVenue(crate, courier), due);
    }

    private static void readyAtAVenue() {
        CrateTour t = Scenes.nestedCrates();
        t.addWork(1, 0, 1, 0, false);
        ready(t, 0, 0, 0, 0);
        // The crates need 5, 10 and 2 hours now, from outside to inside.
        t.setClimate(0, 26, 47);
        ready(t, 5, 15, 17, 0);
        t.advance(2);
        ready(t, 5, 15, 17, 2);
        t.advance(6);
        ready(t, 8, 18, 20, 8);
        t.open(0);
        t.advance(4);
        ready(t, 12, 18, 20, 12);
        t.advance(18);
        ready(t, 30, 30, 32, 30);
        t.setClimate(0, 20, 50);
        ready(t, 30, 30, 30, 30);
        t.setClimate(0, 26, 47);
        t.open(1);
        ready(t, 30, 30, 32, 30);
        t.advance(1);
        ready(t, 31, 31, 32, 31);
        t.advance(2);
        ready(t, 33, 33, 33, 33);
    }

    private static void readyInOpenCrates() {
        CrateTour t = Scenes.threeVenues();
        for (int i = 0; i < 3; i++) {
            t.addCrate(0, 1);
        }
        t.addWork(0, 0, 1, 5, false);
        t.addWork(0, 0, 1, 5, false);
        t.pack(0, 0);
        t.pack(1, 1);
        t.close(1);
        t.advance(3);
        t.setClimate(0, 25, 50);
        ready(t, 3, 3);
        t.nest(1, 0);
        t.setClimate(0, 40, 50);
        ready(t, 3, 8);
        t.advance(2);
        ready(t, 5, 8);
        t.close(0);
        // Crate 0 is open at once, for it has the climate of the venue; crate 1 would wait from then.
        ready(t, 5, 13);
        t.advance(5);
        ready(t, 10, 18);
    }

    private static void readyOnTheWay() {
        CrateTour t = Scenes.nestedCrates();
        t.advance(4);
        t.send(0, 1, NONE);
        // At venue 1 the crates need 10, 20 and 5 hours.
        ready(t, 44, 64, 69);
        t.setClimate(0, -10, 20);
        ready(t, 44, 64, 69);
        t.advance(29);
        ready(t, 44, 64, 69);
        t.setClimate(1, 20, 50);
        ready(t, 34, 34, 34);
        t.setClimate(1, 10, 40);
        t.advance(1);
        ready(t, 44, 64, 69);
        t.advance(11);
        ready(t, 45, 65, 70);
    }

    /** What is forecast comes about when the crates are opened as soon as they may be. */
    private static void readyAsItIsDone() {
        CrateTour t = Scenes.nestedCrates();
        t.advance(1);
        t.send(0, 1, NONE);
        int[] forecast = {t.readyAt(0), t.readyAt(1), t.readyAt(2)};
        int out = 0;
        for (int hour = 0; hour < 120 && out < 3; hour++) {
            while (out < 3 && Scenes.opens(t, out)) {
                t.unpack(out);
                Expect.same("time at which work " + out + " is out", t.whole(0), forecast[out]);
                Expect.same("readyAt(" + out + ") of a work in no crate", t.readyAt(out), t.whole(0));
                out++;
            }
            t.advance(1);
        }
        Expect.same("works that are out", out, 3);
    }

    private static void readyInTwelveCrates() {
        CrateTour t = Scenes.twelveNestedCrates();
        // Each crate needs 2 hours behind the one around it.
        t.setClimate(0, 25, 50);
        ready(t, 24, 22, 20, 18, 16, 14, 12, 10, 8, 6, 4, 2);
        all(t, 24, 24, 24, 24, 24, 24, 24, 24, 24, 24, 24, 24);
        t.send(11, 1, NONE);
        // At venue 1 each needs 5.
        ready(t, 90, 85, 80, 75, 70, 65, 60, 55, 50, 45, 40, 35);
        all(t, 90, 90, 90, 90, 90, 90, 90, 90, 90, 90, 90, 90);
    }

    private static void allReadyAt() {
        CrateTour t = Scenes.nestedCrates();
        t.addCrate(0, 1);
        t.addCrate(0, 1);
        t.addWork(0, 0, 1, 1, false);
        all(t, 0, 0, 0, NONE, NONE);
        t.setClimate(0, 26, 47);
        all(t, 17, 17, 17, NONE, NONE);
        t.advance(5);
        t.open(0);
        t.advance(10);
        t.open(1);
        t.takeOut(2);
        t.advance(1);
        all(t, 16, 16, 17, NONE, NONE);
        t.unpack(1);
        all(t, 16, NONE, 17, NONE, NONE);
        t.nest(2, 0);
        all(t, 17, NONE, 17, NONE, NONE);
        t.close(3);
        t.send(3, 1, NONE);
        all(t, 17, NONE, 17, NONE, NONE);
        t.pack(3, 4);
        t.advance(10);
        all(t, 26, NONE, 26, NONE, 26);
    }

    private static void bestVenueByClimate() {
        CrateTour t = new CrateTour();
        t.addVenue(20, 50, 0, 10_000_000);
        t.addVenue(40, 50, 0, 10_000_000);
        t.addVenue(20, 50, 0, 10_000_000);
        t.addVenue(21, 50, 0, 10_000_000);
        t.setWay(0, 1, 10);
        t.setWay(0, 2, 20);
        t.setWay(0, 3, 19);
        t.addCrate(0, 4);
        t.addWork(0, 0, 1, 20, false);
        t.pack(0, 0);
        t.close(0);
        // 10 + 32 hours, 20 + 0 and 19 + 1.
        best(t, 0, NONE, 2);
        t.setWay(0, 3, 18);
        best(t, 0, NONE, 3);
        t.setClimate(1, 22, 50);
        best(t, 0, NONE, 1);
        t.setClimate(1, 29, 50);
        best(t, 0, NONE, 3);
        t.advance(7);
        best(t, 0, NONE, 3);
        t.setWay(0, 3, 0);
        best(t, 0, NONE, 2);
        t.setClimate(1, 26, 54);
        best(t, 0, NONE, 2);
        // 10 + 10 hours, as soon as at venue 2.
        t.setClimate(1, 26, 53);
        best(t, 0, NONE, 1);
    }

    private static void bestVenueWithoutWorks() {
        CrateTour t = new CrateTour();
        t.addVenue(20, 50, 0, 0);
        t.addVenue(20, 50, 0, 0);
        t.addVenue(40, 90, 0, 0);
        t.addVenue(20, 50, 0, 0);
        t.addCrate(0, 4);
        best(t, 0, NONE, NONE);
        t.close(0);
        best(t, 0, NONE, NONE);
        t.setWay(0, 1, 12);
        t.setWay(0, 2, 11);
        t.setWay(0, 3, 11);
        best(t, 0, NONE, 2);
        t.setWay(0, 3, 10);
        best(t, 0, NONE, 3);
        t.setWay(0, 1, 10);
        best(t, 0, NONE, 1);
        t.advance(9);
        best(t, 0, NONE, 1);
    }

    private static void bestVenueOfThoseAllowed() {
        CrateTour t = Scenes.closedCrate();
        t.addVenue(20, 50, 0, 10_000_000);
        t.setWay(0, 3, 100);
        t.addCourier(0);
        t.addCourier(3);
        best(t, 0, NONE, 1);
        best(t, 0, 0, 1);
        best(t, 0, 1, NONE);
        t.setLender(0, 3, 2);
        best(t, 0, NONE, 3);
        t.setLender(0, 3, 10);
        best(t, 0, NONE, NONE);
        t.setLender(0, 3, 0);
        t.open(0);
        best(t, 0, NONE, NONE);
        t.addWork(0, 0, 1, 9, true);
        t.pack(1, 0);
        t.close(0);
        best(t, 0, NONE, NONE);
        best(t, 0, 0, 1);
        t.send(0, 1, 0);
        best(t, 0, 0, NONE);
        best(t, 0, NONE, NONE);
        t.advance(30);
        best(t, 0, 0, 2);
        t.setWay(1, 3, 3);
        best(t, 0, 0, 3);
        // Back at venue 0 it need not wait.
        t.setWay(0, 1, 2);
        best(t, 0, 0, 0);
    }

    /** The answer is that of sending the crate to each venue in turn and looking. */
    private static void bestVenueIsAsSent() {
        for (int hours = 1; hours < 40; hours += 3) {
            CrateTour t = Scenes.nestedCrates();
            t.addVenue(18, 50, 0, 10_000_000);
            t.addVenue(20, 47, 0, 10_000_000);
            t.setWay(0, 1, hours);
            t.setWay(0, 2, 20);
            t.setWay(0, 3, 50 - hours);
            t.setWay(0, 4, 31);
            t.advance(hours);
            int due = NONE;
            int soonest = HIGH;
            for (int to = 1; to < 5; to++) {
                t.send(0, to, NONE);
                if (t.allReadyAt(0) < soonest) {
                    soonest = t.allReadyAt(0);
                    due = to;
                }
                t.undo();
            }
            best(t, 0, NONE, due);
        }
    }

    private static void numbers() {
        CrateTour t = Scenes.closedCrate();
        t.addCourier(0);
        for (int no : new int[] {-1, 1, 16, LOW, HIGH}) {
            Expect.refuses("readyAt(" + no + ")", Expect.INDEX, t, () -> t.readyAt(no));
            Expect.refuses("allReadyAt(" + no + ")", Expect.INDEX, t, () -> t.allReadyAt(no));
            Expect.refuses("bestVenue(" + no + ", 0)", Expect.INDEX, t, () -> t.bestVenue(no, 0));
            Expect.refuses("bestVenue(" + no + ", NONE)", Expect.INDEX, t, () -> t.bestVenue(no, NONE));
        }
        for (int no : new int[] {-2, 1, 4, LOW, HIGH}) {
            Expect.refuses("bestVenue(0, " + no + ")", Expect.INDEX, t, () -> t.bestVenue(0, no));
        }
    }
}
