import java.util.ArrayList;
import java.util.List;

/** Tours to begin with, and all that a tour tells, in rows that tests can compare. */
final class Scenes {
    private Scenes() {
    }

    /**
     * Venue 0 has 20 degrees and 50 %, rate 10; venue 1 has 10 and 40, rate 20; venue 2 has 25 and 60,
     * rate 0. Each takes ten millions. From 0 to 1 it is 30 hours, from 1 to 2 it is 10.
     */
    static CrateTour threeVenues() {
        CrateTour tour = new CrateTour();
        tour.addVenue(20, 50, 10, 10_000_000);
        tour.addVenue(10, 40, 20, 10_000_000);
        tour.addVenue(25, 60, 0, 10_000_000);
        tour.setWay(0, 1, 30);
        tour.setWay(1, 2, 10);
        return tour;
    }

    /** Three venues, and a closed crate 0 (insulation 2) at venue 0 with work 0 (lender 0, 5 legs). */
    static CrateTour closedCrate() {
        CrateTour tour = threeVenues();
        tour.addCrate(0, 2);
        tour.addWork(0, 0, 200_000, 5, false);
        tour.pack(0, 0);
        tour.close(0);
        return tour;
    }

    /**
     * Three venues; crate 0 (insulation 2) at venue 0 holds crate 1 (4), which holds crate 2 (1), all
     * closed at time 0. In each is the work with its number, of 100, 20 and 3, with 5 legs.
     */
    static CrateTour nestedCrates() {
        CrateTour tour = threeVenues();
        int[] values = {100, 20, 3};
        int[] insulations = {2, 4, 1};
        for (int i = 0; i < 3; i++) {
            tour.addCrate(0, insulations[i]);
            tour.addWork(0, 0, values[i], 5, false);
            tour.pack(i, i);
        }
        tour.close(2);
        tour.nest(2, 1);
        tour.close(1);
        tour.nest(1, 0);
        tour.close(0);
        return tour;
    }

    /**
     * Three venues; all twelve crates at venue 0, each closed at time 0 in the one with the next number,
     * so that crate 11 is the outermost one. In each is the work with its number, of as much plus 1.
     */
    static CrateTour twelveNestedCrates() {
        CrateTour tour = threeVenues();
        for (int i = 0; i < 12; i++) {
            tour.addCrate(0, 1);
            tour.addWork(0, 0, i + 1, 20, false);
            tour.pack(i, i);
            if (i > 0) {
                tour.nest(i - 1, i);
            }
            tour.close(i);
        }
        return tour;
    }

    static void type(CrateTour tour, String text) {
        for (int i = 0; i < text.length(); i++) {
            tour.type(text.charAt(i));
        }
    }

    /** Types a text in place of the one that is there, and runs it. */
    static int run(CrateTour tour, String text) {
        tour.clearCommands();
        type(tour, text);
        return tour.runCommands();
    }

    static int[] whole(CrateTour tour) {
        int[] row = new int[10];
        for (int what = 0; what < row.length; what++) {
            row[what] = tour.whole(what);
        }
        return row;
    }

    static int[] venue(CrateTour tour, int venue) {
        int[] row = new int[9];
        for (int what = 0; what < row.length; what++) {
            row[what] = tour.venue(venue, what);
        }
        return row;
    }

    static int[] crate(CrateTour tour, int crate) {
        int[] row = new int[14];
        for (int what = 0; what < row.length; what++) {
            row[what] = tour.crate(crate, what);
        }
        return row;
    }

    static int[] work(CrateTour tour, int work) {
        int[] row = new int[8];
        for (int what = 0; what < row.length; what++) {
            row[what] = tour.work(work, what);
        }
        return row;
    }

    static int[] noted(CrateTour tour, int work) {
        int[] row = new int[10];
        for (int back = 0; back < row.length; back++) {
            row[back] = tour.noted(work, back);
        }
        return row;
    }

    /** All that the digest speaks of but the undo stack and the command text, in its order. */
    static List<Integer> view(CrateTour tour) {
        List<Integer> view = new ArrayList<>();
        add(view, whole(tour));
        for (int venue = 0; venue < tour.whole(1); venue++) {
            add(view, venue(tour, venue));
        }
        for (int crate = 0; crate < tour.whole(2); crate++) {
            add(view, crate(tour, crate));
            add(view, tour.allReadyAt(crate));
        }
        for (int work = 0; work < tour.whole(3); work++) {
            add(view, work(tour, work));
            add(view, noted(tour, work));
            add(view, tour.readyAt(work));
        }
        for (int courier = 0; courier < tour.whole(4); courier++) {
            add(view, tour.courier(courier));
        }
        return view;
    }

    private static void add(List<Integer> view, int... values) {
        for (int value : values) {
            view.add(value);
        }
    }

    /** The digest that is due with so many saved states and so long a text. */
    static long digest(CrateTour tour, int saved, int length) {
        long h = 43003;
        h = 31 * h + saved;
        h = 31 * h + length;
        for (int v : view(tour)) {
            h = 31 * h + v;
        }
        return h;
    }

    /** How many states are on the undo stack, read from the digest; -1 if the digest fits none. */
    static int saved(CrateTour tour, int length) {
        for (int saved = 0; saved <= 4; saved++) {
            if (digest(tour, saved, length) == tour.digest()) {
                return saved;
            }
        }
        return -1;
    }
}
