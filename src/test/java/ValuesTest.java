/** Promises 18 to 24: values. */
public final class ValuesTest {
    private static final int LOW = Integer.MIN_VALUE;
    private static final int HIGH = Integer.MAX_VALUE;
    private static final int NONE = CrateTour.NONE;

    public static void main(String[] args) {
        refusalInOrder();
        refusalOfCratesThatCannotGo();
        refusalLooksAtAllWorksInIt();
        refusalByCap();
        refusalByLender();
        refusalByCourier();
        refusalNumbers();
        crate();
        work();
        twelveCrates();
        noted();
        venue();
        courier();
        whole();
        Expect.done("ValuesTest");
    }

    private static void reason(CrateTour t, int crate, int to, int courier, int due) {
        Expect.tells("refusal(" + crate + ", " + to + ", " + courier + ")", t,
                () -> t.refusal(crate, to, courier), due);
        if (due != 0) {
            Expect.refuses("send(" + crate + ", " + to + ", " + courier + ") with reason " + due,
                    Expect.STATE, t, () -> t.send(crate, to, courier));
        }
    }

    /** All reasons apply at first, and are taken away one by one. */
    private static void refusalInOrder() {
        CrateTour t = new CrateTour();
        t.addVenue(20, 50, 0, 0);
        t.addVenue(30, 70, 0, 99);
        t.addCrate(0, 1);
        t.addCrate(0, 1);
        t.addWork(0, 2, 100, 0, true);
        t.addWork(0, 3, 100, 1, true);
        t.addCourier(0);
        t.addCourier(1);
        t.setLender(2, 3, 255);
        t.setLender(2, 1, 29);
        t.setLender(3, 3, 2);
        t.setLender(3, 1, 29);
        t.setLender(3, 2, 69);
        t.pack(0, 0);
        t.pack(1, 1);
        reason(t, 0, 1, 1, 1);
        reason(t, 0, 0, 1, 1);
        t.close(0);
        t.nest(0, 1);
        reason(t, 0, 1, 1, 2);
        reason(t, 0, 0, 1, 2);
        t.takeOut(0);
        reason(t, 0, 0, 1, 4);
        reason(t, 0, 1, 1, 4);
        t.setWay(0, 1, 10);
        reason(t, 0, 0, 1, 4);
        reason(t, 0, 1, 1, 5);
        t.close(1);
        reason(t, 1, 1, 1, 6);
        t.setLender(3, 3, 253);
        reason(t, 1, 1, 1, 7);
        t.setLender(3, 1, 30);
        reason(t, 1, 1, 1, 7);
        t.setLender(3, 2, 70);
        reason(t, 1, 1, 1, 8);
        reason(t, 1, 1, NONE, 8);
        t.undo();
        reason(t, 1, 1, NONE, 7);
        t.setLender(3, 2, 71);
        CrateTour wide = withCap(100);
        reason(wide, 0, 1, NONE, 9);
        reason(wide, 0, 1, 1, 10);
        reason(wide, 0, 1, 0, 0);
        wide.send(0, 1, 0);
        reason(wide, 0, 1, 0, 3);
        reason(wide, 0, 0, 1, 3);
        reason(wide, 1, 1, 0, 10);
        reason(wide, 1, 1, NONE, 0);
    }

    /** Two venues, the second one with a cap; crate 0 with an escorted work of 100, crate 1 without works. */
    private static CrateTour withCap(int cap) {
        CrateTour t = new CrateTour();
        t.addVenue(20, 50, 0, 0);
        t.addVenue(30, 70, 0, cap);
        t.setWay(0, 1, 10);
        t.addCrate(0, 1);
        t.addCrate(0, 1);
        t.addWork(0, 3, 100, 1, true);
        t.addCourier(0);
        t.addCourier(1);
        t.pack(0, 0);
        t.close(0);
        t.close(1);
        return t;
    }

    private static void refusalOfCratesThatCannotGo() {
        CrateTour t = Scenes.nestedCrates();
        reason(t, 1, 1, NONE, 2);
        reason(t, 2, 1, NONE, 2);
        t.open(0);
        t.open(1);
        reason(t, 1, 1, NONE, 1);
        t.close(1);
        t.close(0);
        t.send(0, 1, NONE);
        reason(t, 0, 1, NONE, 3);
        reason(t, 0, 2, NONE, 3);
        reason(t, 1, 2, NONE, 2);
        t.advance(30);
        reason(t, 0, 1, NONE, 4);
        reason(t, 0, 2, NONE, 0);
        t.setWay(1, 2, 0);
        reason(t, 0, 2, NONE, 4);
    }

    private static void refusalLooksAtAllWorksInIt() {
        CrateTour t = Scenes.threeVenues();
        for (int i = 0; i < 3; i++) {
            t.addCrate(0, 1);
            t.addWork(0, i, 10, 1 + i, i == 2);
            t.pack(i, i);
        }
        t.addWork(0, 5, 10, 0, true);
        t.addCourier(0);
        t.setLender(5, 3, 255);
        t.close(2);
        t.nest(2, 1);
        t.close(1);
        t.nest(1, 0);
        t.close(0);
        reason(t, 0, 1, NONE, 9);
        reason(t, 0, 1, 0, 0);
        t.setLender(2, 2, 39);
        reason(t, 0, 1, 0, 7);
        t.setLender(2, 3, 2);
        reason(t, 0, 1, 0, 6);
        t.setLender(2, 3, 0);
        t.setLender(2, 2, 90);
        t.send(0, 1, 0);
        t.advance(30);
        reason(t, 0, 2, 0, 5);
        t.advance(240);
        t.open(0);
        t.unpack(0);
        t.close(0);
        reason(t, 0, 2, 0, 0);
        t.send(0, 2, 0);
        t.advance(240);
        Expect.same("legs left of work 1", t.work(1, 2), 0);
        Expect.same("legs left of work 2", t.work(2, 2), 1);
        reason(t, 0, 1, 0, 5);
        t.open(0);
        t.advance(240);
        t.open(1);
        t.unpack(1);
        t.close(1);
        t.close(0);
        reason(t, 0, 1, 0, 0);
    }

    private static void refusalByCap() {
        CrateTour t = new CrateTour();
        t.addVenue(20, 50, 0, 0);
        t.addVenue(20, 50, 0, 1000);
        t.addVenue(20, 50, 0, 10_000_000);
        t.setWay(0, 1, 10);
        t.setWay(0, 2, 10);
        t.setWay(1, 2, 20);
        for (int i = 0; i < 4; i++) {
            t.addCrate(i == 2 ? 1 : 0, 1);
        }
        t.addWork(0, 0, 400, 5, false);
        t.addWork(0, 0, 300, 5, false);
        t.addWork(1, 0, 200, 5, false);
        t.addWork(1, 0, 100, 5, false);
        t.addWork(0, 0, 9999, 5, false);
        t.pack(0, 0);
        t.pack(1, 1);
        t.pack(2, 2);
        for (int i = 0; i < 4; i++) {
            t.close(i);
        }
        reason(t, 0, 1, NONE, 0);
        t.send(1, 1, NONE);
        reason(t, 0, 1, NONE, 0);
        t.addWork(1, 0, 1, 5, false);
        reason(t, 0, 1, NONE, 8);
        reason(t, 3, 1, NONE, 0);
        reason(t, 0, 2, NONE, 0);
        t.undo();
        reason(t, 3, 1, NONE, 0);
        t.send(0, 1, NONE);
        t.advance(10);
        reason(t, 3, 1, NONE, 0);
        t.send(0, 2, NONE);
        reason(t, 3, 1, NONE, 0);
        t.addWork(1, 0, 401, 5, false);
        reason(t, 3, 1, NONE, 8);
        Expect.same("send(1, 2, NONE) from there", t.send(1, 2, NONE), 30);
        reason(t, 3, 1, NONE, 0);
        t.advance(20);
        reason(t, 0, 1, NONE, 8);

        CrateTour full = new CrateTour();
        full.addVenue(20, 50, 0, 10_000_000);
        full.addVenue(20, 50, 0, 10_000_000);
        full.setWay(0, 1, 10);
        full.addCrate(0, 1);
        full.addWork(0, 0, 1_000_000, 5, false);
        full.pack(0, 0);
        full.close(0);
        for (int i = 0; i < 9; i++) {
            full.addWork(1, 0, 1_000_000, 5, false);
        }
        reason(full, 0, 1, NONE, 0);
        full.addWork(1, 0, 1, 5, false);
        reason(full, 0, 1, NONE, 8);
    }

    private static void refusalByLender() {
        CrateTour t = new CrateTour();
        for (int i = 0; i < 8; i++) {
            t.addVenue(10, 40, 0, 10_000_000);
            if (i > 0) {
                t.setWay(0, i, 10);
            }
        }
        t.addCrate(0, 1);
        t.addWork(0, 4, 100, 5, false);
        t.pack(0, 0);
        t.close(0);
        for (int set = 0; set < 256; set += 17) {
            t.setLender(4, 3, set);
            for (int to = 1; to < 8; to++) {
                Expect.same("refusal(0, " + to + ", NONE), the set being " + set, t.refusal(0, to, NONE),
                        (set & 1 << to) == 0 ? 0 : 6);
            }
        }
        t.setLender(4, 3, 0);
        int[][] cases = {{0, 10, 0}, {0, 11, 7}, {1, 10, 0}, {1, 9, 7}, {2, 40, 0}, {2, 39, 7}};
        for (int[] n : cases) {
            t.setLender(4, n[0], n[1]);
            reason(t, 0, 1, NONE, n[2]);
            t.undo();
        }
        t.setLender(4, 0, 12);
        t.setLender(4, 1, 8);
        t.setClimate(1, 10, 40);
        reason(t, 0, 1, NONE, 7);
        t.setClimate(1, 12, 40);
        reason(t, 0, 1, NONE, 7);
        t.setClimate(1, 8, 40);
        reason(t, 0, 1, NONE, 7);
        t.setLender(3, 3, 255);
        t.setLender(4, 0, -10);
        reason(t, 0, 1, NONE, 0);
    }

    private static void refusalByCourier() {
        CrateTour t = Scenes.closedCrate();
        t.addCourier(0);
        t.addCourier(1);
        t.addCrate(0, 1);
        t.close(1);
        reason(t, 0, 1, NONE, 0);
        reason(t, 0, 1, 0, 0);
        reason(t, 0, 1, 1, 10);
        t.send(1, 1, 0);
        reason(t, 0, 1, 0, 10);
        t.advance(29);
        reason(t, 0, 1, 0, 10);
        t.advance(1);
        reason(t, 0, 1, 0, 10);
        reason(t, 1, 0, 0, 0);
        reason(t, 1, 0, 1, 0);
    }

    private static void refusalNumbers() {
        CrateTour t = Scenes.closedCrate();
        t.addCourier(0);
        for (int no : new int[] {-1, 1, LOW, HIGH}) {
            Expect.refuses("refusal(" + no + ", 1, 0)", Expect.INDEX, t, () -> t.refusal(no, 1, 0));
        }
        for (int no : new int[] {-1, 3, LOW, HIGH}) {
            Expect.refuses("refusal(0, " + no + ", 0)", Expect.INDEX, t, () -> t.refusal(0, no, 0));
        }
        for (int no : new int[] {-2, 1, LOW, HIGH}) {
            Expect.refuses("refusal(0, 1, " + no + ")", Expect.INDEX, t, () -> t.refusal(0, 1, no));
        }
    }

    private static void crate() {
        CrateTour t = Scenes.nestedCrates();
        t.addCrate(2, 3);
        t.setClimate(0, 26, 47);
        t.advance(2);
        Expect.row("crate 0", Scenes.crate(t, 0), 2, 0, -1, 0, -1, -1, 20, 50, 0, 5, 3, 2, 123, 1);
        Expect.row("crate 1", Scenes.crate(t, 1), 4, 0, 0, 0, -1, -1, 20, 50, 0, 10, 2, 1, 23, 0);
        Expect.row("crate 2", Scenes.crate(t, 2), 1, 0, 1, 0, -1, -1, 20, 50, 0, 2, 1, 0, 3, 0);
        Expect.row("crate 3", Scenes.crate(t, 3), 3, 1, -1, 2, -1, -1, 25, 60, -1, -1, 0, 0, 0, 1);
        t.advance(3);
        t.open(0);
        Expect.row("crate 0, open", Scenes.crate(t, 0), 2, 1, -1, 0, -1, -1, 26, 47, -1, -1, 3, 2, 123, 1);
        Expect.row("crate 1 in it", Scenes.crate(t, 1), 4, 0, 0, 0, -1, -1, 20, 50, 5, 10, 2, 1, 23, 1);
        Expect.row("crate 2 in that", Scenes.crate(t, 2), 1, 0, 1, 0, -1, -1, 20, 50, 0, 2, 1, 0, 3, 0);
        t.advance(10);
        t.open(1);
        Expect.row("crate 1, open", Scenes.crate(t, 1), 4, 1, 0, 0, -1, -1, 26, 47, -1, -1, 2, 1, 23, 1);
        t.close(1);
        t.close(0);
        t.send(0, 1, NONE);
        Expect.row("crate 0, sent", Scenes.crate(t, 0), 2, 0, -1, -1, 1, 45, 26, 47, 15, -1, 3, 2, 123, 0);
        Expect.row("crate 2, sent", Scenes.crate(t, 2), 1, 0, 1, -1, 1, 45, 20, 50, 15, -1, 1, 0, 3, 0);
        for (int what = 0; what < 14; what++) {
            int one = what;
            Expect.tells("crate(0, " + what + ")", t, () -> t.crate(0, one), Scenes.crate(t, 0)[what]);
        }
        for (int no : new int[] {-1, 4, 12, LOW, HIGH}) {
            Expect.refuses("crate(" + no + ", 0)", Expect.INDEX, t, () -> t.crate(no, 0));
            Expect.refuses("crate(" + no + ", 14)", Expect.INDEX, t, () -> t.crate(no, 14));
        }
        for (int no : new int[] {-1, 14, LOW, HIGH}) {
            Expect.refuses("crate(0, " + no + ")", Expect.ARGUMENT, t, () -> t.crate(0, no));
        }
    }

    private static void work() {
        CrateTour t = Scenes.nestedCrates();
        t.addWork(2, 5, 77, 0, true);
        Expect.row("work 0", Scenes.work(t, 0), 0, 100, 5, 0, 0, 0, 1, 0);
        Expect.row("work 1", Scenes.work(t, 1), 0, 20, 5, 0, 1, 0, 2, 0);
        Expect.row("work 2", Scenes.work(t, 2), 0, 3, 5, 0, 2, 0, 3, 0);
        Expect.row("work 3", Scenes.work(t, 3), 5, 77, 0, 1, -1, 2, 0, 0);
        t.send(0, 1, NONE);
        t.setWayRate(5000);
        t.advance(24);
        Expect.row("work 1, sent", Scenes.work(t, 1), 0, 20, 5, 0, 1, -1, 2, 10);
        t.advance(24);
        Expect.row("work 1, arrived", Scenes.work(t, 1), 0, 20, 4, 0, 1, 1, 2, 10);
        for (int what = 0; what < 8; what++) {
            int one = what;
            Expect.tells("work(3, " + what + ")", t, () -> t.work(3, one), Scenes.work(t, 3)[what]);
        }
        for (int no : new int[] {-1, 4, 16, LOW, HIGH}) {
            Expect.refuses("work(" + no + ", 0)", Expect.INDEX, t, () -> t.work(no, 0));
            Expect.refuses("work(" + no + ", 8)", Expect.INDEX, t, () -> t.work(no, 8));
        }
        for (int no : new int[] {-1, 8, LOW, HIGH}) {
            Expect.refuses("work(0, " + no + ")", Expect.ARGUMENT, t, () -> t.work(0, no));
        }
    }

    /** Crates within crates as deep as can be. */
    private static void twelveCrates() {
        CrateTour t = Scenes.twelveNestedCrates();
        t.advance(1);
        t.send(11, 1, NONE);
        for (int i = 0; i < 12; i++) {
            int reaches = (i + 1) * (i + 2) / 2;
            int holder = i == 11 ? NONE : i + 1;
            Expect.row("crate " + i + ", sent", Scenes.crate(t, i), 1, 0, holder, -1, 1, 31, 20, 50, 0, -1,
                    i + 1, i, reaches, 0);
            Expect.row("work " + i + ", sent", Scenes.work(t, i), 0, i + 1, 20, 0, i, -1, 12 - i, 0);
        }
        Expect.same("works on their way", t.whole(8), 12);
        Expect.same("values on their way", t.venue(1, 5), 78);
    }

    private static void noted() {
        CrateTour t = Scenes.threeVenues();
        t.addCrate(2, 1);
        t.addWork(2, 0, 1, 20, false);
        t.pack(0, 0);
        t.close(0);
        t.setWay(1, 2, 48);
        t.advance(24);
        t.addWork(1, 0, 1, 20, false);
        t.send(0, 1, NONE);
        t.advance(24);
        Expect.row("places of work 0", Scenes.noted(t, 0), 8, 2, -1, -1, -1, -1, -1, -1, -1, -1);
        Expect.row("places of work 1", Scenes.noted(t, 1), 1, -1, -1, -1, -1, -1, -1, -1, -1, -1);
        t.advance(23);
        Expect.row("places of work 0 at 71", Scenes.noted(t, 0), 8, 2, -1, -1, -1, -1, -1, -1, -1, -1);
        t.advance(1);
        Expect.row("places of work 0 at 72", Scenes.noted(t, 0), 1, 8, 2, -1, -1, -1, -1, -1, -1, -1);
        t.advance(24 * 7);
        Expect.row("places of ten days", Scenes.noted(t, 0), 1, 1, 1, 1, 1, 1, 1, 1, 8, 2);
        t.advance(24);
        Expect.row("places of eleven days", Scenes.noted(t, 0), 1, 1, 1, 1, 1, 1, 1, 1, 1, 8);
        Expect.row("places of work 1", Scenes.noted(t, 1), 1, 1, 1, 1, 1, 1, 1, 1, 1, 1);
        t.undo();
        Expect.row("places behind undo()", Scenes.noted(t, 0), 1, 1, 1, 1, 1, 1, 1, 1, 8, 2);
        for (int back : new int[] {10, 11, 12, 1000, HIGH}) {
            Expect.tells("noted(0, " + back + ")", t, () -> t.noted(0, back), NONE);
        }
        Expect.tells("noted(0, 9)", t, () -> t.noted(0, 9), 2);
        for (int no : new int[] {-1, 2, 16, LOW, HIGH}) {
            Expect.refuses("noted(" + no + ", 0)", Expect.INDEX, t, () -> t.noted(no, 0));
            Expect.refuses("noted(" + no + ", -1)", Expect.INDEX, t, () -> t.noted(no, -1));
        }
        for (int no : new int[] {-1, -2, LOW}) {
            Expect.refuses("noted(0, " + no + ")", Expect.ARGUMENT, t, () -> t.noted(0, no));
        }
    }

    private static void venue() {
        CrateTour t = Scenes.nestedCrates();
        t.addWork(0, 0, 5000, 5, false);
        t.addWork(1, 0, 70, 5, false);
        t.addCrate(0, 1);
        t.addCrate(1, 1);
        t.addCourier(0);
        t.addCourier(0);
        t.addCourier(1);
        t.pack(3, 3);
        Expect.row("venue 0", Scenes.venue(t, 0), 20, 50, 10, 10_000_000, 5123, 0, 2, 2, 0);
        Expect.row("venue 1", Scenes.venue(t, 1), 10, 40, 20, 10_000_000, 70, 0, 1, 1, 0);
        Expect.row("venue 2", Scenes.venue(t, 2), 25, 60, 0, 10_000_000, 0, 0, 0, 0, 0);
        t.send(0, 1, 0);
        t.advance(24);
        Expect.row("venue 0", Scenes.venue(t, 0), 20, 50, 10, 10_000_000, 5000, 0, 1, 1, 5);
        Expect.row("venue 1", Scenes.venue(t, 1), 10, 40, 20, 10_000_000, 70, 123, 1, 1, 0);
        t.advance(6);
        Expect.row("venue 1", Scenes.venue(t, 1), 10, 40, 20, 10_000_000, 193, 0, 2, 2, 0);
        for (int what = 0; what < 9; what++) {
            int one = what;
            Expect.tells("venue(1, " + what + ")", t, () -> t.venue(1, one), Scenes.venue(t, 1)[what]);
        }
        for (int no : new int[] {-1, 3, 8, LOW, HIGH}) {
            Expect.refuses("venue(" + no + ", 0)", Expect.INDEX, t, () -> t.venue(no, 0));
            Expect.refuses("venue(" + no + ", 9)", Expect.INDEX, t, () -> t.venue(no, 9));
        }
        for (int no : new int[] {-1, 9, LOW, HIGH}) {
            Expect.refuses("venue(0, " + no + ")", Expect.ARGUMENT, t, () -> t.venue(0, no));
        }
    }

    private static void courier() {
        CrateTour t = Scenes.closedCrate();
        t.addCourier(0);
        t.addCourier(2);
        Expect.tells("courier(0)", t, () -> t.courier(0), 0);
        Expect.tells("courier(1)", t, () -> t.courier(1), 2);
        t.send(0, 1, 0);
        Expect.tells("courier(0) on the way", t, () -> t.courier(0), NONE);
        t.advance(29);
        Expect.tells("courier(0) on the way still", t, () -> t.courier(0), NONE);
        t.advance(1);
        Expect.tells("courier(0) who has arrived", t, () -> t.courier(0), 1);
        Expect.tells("courier(1) who stayed", t, () -> t.courier(1), 2);
        for (int no : new int[] {-1, 2, 4, LOW, HIGH}) {
            Expect.refuses("courier(" + no + ")", Expect.INDEX, t, () -> t.courier(no));
        }
    }

    private static void whole() {
        CrateTour t = Scenes.nestedCrates();
        t.addWork(0, 0, 10_000, 5, false);
        t.addCourier(0);
        t.addCrate(1, 1);
        Expect.row("whole()", Scenes.whole(t), 0, 3, 4, 4, 1, 0, 0, 0, 0, 1);
        t.setWayRate(5000);
        t.send(0, 1, 0);
        Expect.row("whole(), sent", Scenes.whole(t), 0, 3, 4, 4, 1, 0, 0, 0, 3, 1);
        t.advance(24);
        Expect.row("whole(), a day later", Scenes.whole(t), 24, 3, 4, 4, 1, 71, 61, 0, 3, 1);
        t.advance(16);
        t.open(0);
        Expect.row("whole(), arrived and opened", Scenes.whole(t), 40, 3, 4, 4, 1, 71, 61, 1, 0, 2);
        for (int what = 0; what < 10; what++) {
            int one = what;
            Expect.tells("whole(" + what + ")", t, () -> t.whole(one), Scenes.whole(t)[what]);
        }
        for (int no : new int[] {-1, 10, LOW, HIGH}) {
            Expect.refuses("whole(" + no + ")", Expect.ARGUMENT, t, () -> t.whole(no));
        }
    }
}
