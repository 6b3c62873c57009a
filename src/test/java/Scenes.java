import java.util.ArrayList;
import java.util.List;

/** Tours to begin with, and all that a tour tells, in rows that tests can compare. */
final class Scenes {
    private Scenes() {
    }

    /**
     * Venue 0 has 20 degrees and 50 %, rate 10; venue 1 has 10 and 40, rate 20; venue 2 has 25 and 60,
     * rate 0. Each takes ten millions. From 0 to 1 it is 30 hours, from 1 to 2 it is 10.
     */
    static CrateTour threeVenues() {
        CrateTour tour = new CrateTour();
        tour.addVenue(20, 50, 10, 10_000_000);
        tour.addVenue(10, 40, 20, 10_000_000);
        tour.addVenue(25, 60, 0, 10_000_000);
        tour.setWay(0, 1, 30);
        tour.setWay(1, 2, 10);
        return tour;
    }

    /** Three venues, and a closed crate 0 (insulation 2) at venue 0 with work 0 (lender 0, 5 legs). */
    static CrateTour closedCrate() {
        CrateTour tour = threeVenues();
        tour.addCrate(0, 2);
        tour.addWork(0, 0, 200_000, 5, false);
        tour.pack(0, 0);
        tour.close(0);
        return tour;
    }

    /**
     * Three venues; crate 0 (insulation 2) at venue 0 holds crate 1 (4), which holds crate 2 (1), all
     * closed at time 0. In each is the work with its number, of 100, 20 and 3, with 5 legs.
     */
    static CrateTour nestedCrates() {
        CrateTour tour = threeVenues();
        int[] values = {100, 20, 3};
        int[] insulations = {2, 4, 1};
        for (int i = 0; i < 3; i++) {
            tour.addCrate(0, insulations[i]);
            tour.addWork(0, 0, values[i], 5, false);
            tour.pack(i, i);
        }
        tour.close(2);
        tour.nest(2, 1);
        tour.close(1);
        tour.nest(1, 0);
        tour.close(0);
        return tour;
    }

    /**
     * Three venues; all twelve crates at venue 0, each closed at time 0 in the one with the next number,
     * so that crate 11 is the outermost one. In each is the work with its number, of as much plus 1.
     */
    static CrateTour twelveNestedCrates() {
        CrateTour tour = threeVenues();
        for (int i = 0; i < 12; i++) {
            tour.addCrate(0, 1);
            tour.addWork(0, 0, i + 1, 20, false);
            tour.pack(i, i);
            if (i > 0) {
                tour.nest(i - 1, i);
            }
            tour.close(i);
        }
        return tour;
    }

    /**
     * A tour with much of everything, at time 50, with "wait 3; open 0;" as its text and two saved states.
     * Venue 3 has no ways. Crate 0 is closed at venue 0 and holds 1, which is closed; crate 2 is open there
     * and holds 3, which is closed, and 4, which is open; crate 5 holds 6 and is on its way to venue 1 since
     * 45 until 75, with courier 2; crate 7 is open at venue 1; crate 8 is closed there and may be opened at
     * 61; crate 9 is open at venue 0. Works 0 to 6, of 1000 and as much as their number, are in the crates
     * with their numbers; work 7 is at venue 0, work 8 at venue 1, both in no crate. Courier 0 is at venue 0,
     * courier 1 at venue 1.
     */
    static CrateTour busy() {
        CrateTour tour = threeVenues();
        tour.addVenue(20, 50, 5, 3000);
        setWishes(tour);
        for (int venue : new int[] {0, 1, 0}) {
            tour.addCourier(venue);
        }
        for (int i = 0; i < 10; i++) {
            tour.addCrate(i == 7 || i == 8 ? 1 : 0, 2);
        }
        for (int i = 0; i < 9; i++) {
            tour.addWork(i == 8 ? 1 : 0, i % 6, 1000 + i, 9, i == 5);
        }
        for (int i = 0; i < 7; i++) {
            tour.pack(i, i);
        }
        run(tour, "close 1;nest 1 0;close 0;close 3;nest 3 2;close 4;nest 4 2;open 4;close 6;nest 6 5;close 5;");
        tour.advance(45);
        tour.close(8);
        tour.setClimate(1, 30, 40);
        tour.send(5, 1, 2);
        tour.clearCommands();
        type(tour, "wait 3; open 0;");
        tour.advance(5);
        // Of the four states that are kept then, these two are saved last and taken off again.
        tour.advance(1);
        tour.advance(1);
        tour.undo();
        tour.undo();
        return tour;
    }

    /** Lenders and a rate for ways that are not as at first. */
    private static void setWishes(CrateTour tour) {
        tour.setLender(1, 0, -5);
        tour.setLender(2, 3, 8);
        tour.setLender(3, 1, 35);
        tour.setLender(4, 2, 80);
        tour.setWayRate(300);
    }

    /** All that there can be: 8 venues, 12 crates, 16 works, 4 couriers, a text of 150 bytes, 4 saved states. */
    static CrateTour full() {
        CrateTour tour = new CrateTour();
        for (int i = 0; i < 8; i++) {
            tour.addVenue(20 + i, 50, 10 * i, 10_000_000);
        }
        for (int i = 0; i < 12; i++) {
            tour.addCrate(i % 8, 1 + i % 4);
        }
        for (int i = 0; i < 16; i++) {
            tour.addWork(i % 8, i % 6, 1000 * (i + 1), 20, i % 3 == 0);
        }
        for (int i = 0; i < 4; i++) {
            tour.addCourier(i);
            tour.setWay(i, 7 - i, 10 + i);
        }
        type(tour, "wait 1;".repeat(21) + "   ");
        return tour;
    }

    /** Opens a crate if that can be done, and tells whether it was. */
    static boolean opens(CrateTour tour, int crate) {
        try {
            tour.open(crate);
            return true;
        } catch (IllegalStateException e) {
            return false;
        }
    }

    static void type(CrateTour tour, String text) {
        for (int i = 0; i < text.length(); i++) {
            tour.type(text.charAt(i));
        }
    }

    /** Types a text in place of the one that is there, and runs it. */
    static int run(CrateTour tour, String text) {
        tour.clearCommands();
        type(tour, text);
        return tour.runCommands();
    }

    static int[] whole(CrateTour tour) {
        int[] row = new int[10];
        for (int what = 0; what < row.length; what++) {
            row[what] = tour.whole(what);
        }
        return row;
    }

    static int[] venue(CrateTour tour, int venue) {
        int[] row = new int[9];
        for (int what = 0; what < row.length; what++) {
            row[what] = tour.venue(venue, what);
        }
        return row;
    }

    static int[] crate(CrateTour tour, int crate) {
        int[] row = new int[14];
        for (int what = 0; what < row.length; what++) {
            row[what] = tour.crate(crate, what);
        }
        return row;
    }

    static int[] work(CrateTour tour, int work) {
        int[] row = new int[8];
        for (int what = 0; what < row.length; what++) {
            row[what] = tour.work(work, what);
        }
        return row;
    }

    static int[] noted(CrateTour tour, int work) {
        int[] row = new int[10];
        for (int back = 0; back < row.length; back++) {
            row[back] = tour.noted(work, back);
        }
        return row;
    }

    /** All that the digest speaks of but the undo stack and the command text, in its order. */
    static List<Integer> view(CrateTour tour) {
        List<Integer> view = new ArrayList<>();
        add(view, whole(tour));
        for (int venue = 0; venue < tour.whole(1); venue++) {
            add(view, venue(tour, venue));
        }
        for (int crate = 0; crate < tour.whole(2); crate++) {
            add(view, crate(tour, crate));
            add(view, tour.allReadyAt(crate));
        }
        for (int work = 0; work < tour.whole(3); work++) {
            add(view, work(tour, work));
            add(view, noted(tour, work));
            add(view, tour.readyAt(work));
        }
        for (int courier = 0; courier < tour.whole(4); courier++) {
            add(view, tour.courier(courier));
        }
        return view;
    }

    private static void add(List<Integer> view, int... values) {
        for (int value : values) {
            view.add(value);
        }
    }

    /** The digest that is due with so many saved states and so long a text. */
    static long digest(CrateTour tour, int saved, int length) {
        long h = 43003;
        h = 31 * h + saved;
        h = 31 * h + length;
        for (int v : view(tour)) {
            h = 31 * h + v;
        }
        return h;
    }

    /** How many states are on the undo stack, read from the digest; -1 if the digest fits none. */
    static int saved(CrateTour tour, int length) {
        for (int saved = 0; saved <= 4; saved++) {
            if (digest(tour, saved, length) == tour.digest()) {
                return saved;
            }
        }
        return -1;
    }
}
