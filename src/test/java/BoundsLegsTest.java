import java.util.function.Consumer;

/** Promises 16 and 18: each sentence that names a boundary, in a test of its own, with the document's words. */
public final class BoundsLegsTest {
    private static final int LOW = Twin.LOW;
    private static final int HIGH = Twin.HIGH;
    private static final int NONE = CrateTour.NONE;

    public static void main(String[] args) {
        Expect.all(BoundsLegsTest.class);
        Expect.done("BoundsLegsTest");
    }

    /**
     * A leg against which nothing stands until a field is changed. Crate 0 holds 1, which holds 2, all closed
     * at one venue; in each is a work of 100, with one leg left, of lender 2; for one of them, the odd one, this
     * can be otherwise, and its lender is 3. A work that has no legs, bars all venues and needs a courier stays
     * beside the crates. Courier 0 is at their venue, courier 1 at the goal.
     */
    private static final class Leg {
        int from = 0;
        int to = 1;
        int hours = 10;
        int cap = 300;
        int temperature = 20;
        int humidity = 50;
        int odd = 0;
        int oddLegs = 1;
        boolean oddEscorted = false;
        boolean open = false;
        boolean inAnother = false;

        CrateTour make() {
            CrateTour t = new CrateTour();
            for (int i = 0; i < 8; i++) {
                boolean isGoal = i == to;
                t.addVenue(isGoal ? temperature : 20, isGoal ? humidity : 50, 10, isGoal ? cap : 10_000_000);
            }
            t.setWay(from, to, hours);
            for (int i = 0; i < 4; i++) {
                t.addCrate(from, 1);
            }
            for (int i = 0; i < 3; i++) {
                t.addWork(from, i == odd ? 3 : 2, 100, i == odd ? oddLegs : 1, i == odd && oddEscorted);
                t.pack(i, i);
            }
            t.addWork(from, 4, 1_000_000, 0, true);
            t.setLender(4, 3, 255);
            t.setLender(4, 1, -10);
            t.addCourier(from);
            t.addCourier(to);
            close(t);
            return t;
        }

        private void close(CrateTour t) {
            t.close(2);
            t.nest(2, 1);
            t.close(1);
            t.nest(1, 0);
            t.close(0);
            if (inAnother) {
                t.nest(0, 3);
            }
            if (open) {
                t.open(0);
            }
        }
    }

    private static Twin.Scene leg(Consumer<Leg> change) {
        Leg leg = new Leg();
        change.accept(leg);
        return leg::make;
    }

    private static Twin.Scene behind(Twin.Scene scene, Twin.Ask call) {
        return () -> {
            CrateTour t = scene.make();
            call.of(t);
            return t;
        };
    }

    /** The reason is told, nothing is changed by that, and send() does what the reason says. */
    private static void reason(String what, Twin.Scene scene, int crate, int to, int courier, int due) {
        Twin.tells("refusal, " + what, scene, t -> t.refusal(crate, to, courier), due);
        if (due == 0) {
            CrateTour t = scene.make();
            t.send(crate, to, courier);
            Expect.same("goal of the crate, " + what, t.crate(crate, 4), to);
        } else {
            Twin.refuses("send, " + what, Expect.STATE, scene, t -> t.send(crate, to, courier));
        }
    }

    private static void reason(String what, Twin.Scene scene, int due) {
        reason(what, scene, 0, 1, NONE, due);
    }

    // ---- numbers

    /** "if there is no such crate" */
    private static void sendOfNoCrate() {
        noSuch("crate", (t, crate) -> t.send(crate, 1, NONE), (t, crate) -> t.refusal(crate, 1, NONE),
                -1, 10, 12, LOW, HIGH);
    }

    /** ".., venue" */
    private static void sendToNoVenue() {
        noSuch("venue", (t, to) -> t.send(0, to, NONE), (t, to) -> t.refusal(0, to, NONE), -1, 4, 8, LOW, HIGH);
    }

    /** ".. or courier": NONE is none, what is below it is wrong. */
    private static void sendWithNoSuchCourier() {
        noSuch("courier", (t, courier) -> t.send(0, 1, courier), (t, courier) -> t.refusal(0, 1, courier),
                -2, 3, 4, LOW, HIGH);
        Expect.same("send(0, 1, NONE)", Scenes.busy().send(0, 1, NONE), 80);
        Expect.same("send(0, 1, 0), the first courier", Scenes.busy().send(0, 1, 0), 80);
        CrateTour t = Scenes.full();
        t.close(3);
        Expect.raises("send(3, 4, 4)", Expect.INDEX, () -> t.send(3, 4, 4));
        Expect.same("send(3, 4, 3), the last courier", t.send(3, 4, 3), 13);
    }

    /** Of a number that is none and a leg that cannot be, the number comes first. */
    private static void sendOfNoneAndNotNow() {
        noSuch("crate to its own venue", (t, crate) -> t.send(crate, 0, 1), (t, crate) -> t.refusal(crate, 0, 1),
                -1, 10);
        noSuch("venue of an open crate", (t, to) -> t.send(2, to, 1), (t, to) -> t.refusal(2, to, 1), -1, 4);
        noSuch("courier of one in a crate", (t, courier) -> t.send(1, 1, courier),
                (t, courier) -> t.refusal(1, 1, courier), -2, 3);
        noSuch("courier of one on its way", (t, courier) -> t.send(5, 1, courier),
                (t, courier) -> t.refusal(5, 1, courier), -2, 3);
        noSuch("courier where no way is", (t, courier) -> t.send(0, 2, courier),
                (t, courier) -> t.refusal(0, 2, courier), -2, 3);
    }

    private static void noSuch(String what, Twin.Use send, Twin.Use refusal, int... values) {
        Twin.refuses("send: " + what, Expect.INDEX, Scenes::busy, send, values);
        Twin.refuses("refusal: " + what, Expect.INDEX, Scenes::busy, refusal, values);
    }

    // ---- each reason

    /** "0 means that it may be sent": with all at its last allowed value. */
    private static void reasonNought() {
        reason("without a courier", leg(x -> { }), 0);
        reason("with a courier", leg(x -> { }), 0, 1, 0, 0);
    }

    /** "1 it is open": in none, and in an open one. */
    private static void reasonOneOpen() {
        reason("an open crate", Scenes::busy, 9, 1, NONE, 1);
        reason("an open crate in another one", Scenes::busy, 4, 1, NONE, 1);
        Expect.same("refusal when it is closed", behind(Scenes::busy, t -> t.close(9)).make().refusal(9, 1, NONE), 0);
    }

    /** "2 it is in a crate": closed or open, at a venue or on its way. */
    private static void reasonTwoInACrate() {
        reason("a crate in a closed one", Scenes::busy, 1, 1, NONE, 2);
        reason("a crate in an open one", Scenes::busy, 3, 1, NONE, 2);
        reason("a crate in one on its way", Scenes::busy, 6, 1, NONE, 2);
        Expect.same("refusal when it is out", behind(Scenes::busy, t -> t.takeOut(3)).make().refusal(3, 1, NONE), 0);
    }

    /** "3 it is on its way": until the hour before it arrives. */
    private static void reasonThreeOnItsWay() {
        reason("a crate on its way, back", Scenes::busy, 5, 0, NONE, 3);
        reason("a crate on its way, to its goal", Scenes::busy, 5, 1, NONE, 3);
        reason("a crate on its way, where no way is", Scenes::busy, 5, 3, 1, 3);
        Twin.Scene before = behind(Scenes::busy, t -> t.advance(24));
        Twin.Scene then = behind(Scenes::busy, t -> t.advance(25));
        reason("the hour before it arrives", before, 5, 0, 2, 3);
        reason("the hour in which it arrives", then, 5, 0, 2, 0);
        reason("the hour in which it arrives, to its goal", then, 5, 1, 2, 4);
    }

    /** "4 it is at this venue": the first and the last one, and also if a courier is elsewhere. */
    private static void reasonFourAtThisVenue() {
        reason("to its own venue, the first one", leg(x -> { }), 0, 0, NONE, 4);
        Twin.Scene last = leg(x -> {
            x.from = 7;
            x.to = 0;
        });
        reason("to its own venue, the last one", last, 0, 7, 1, 4);
        reason("from the last venue to the first one", last, 0, 0, NONE, 0);
    }

    /** "or there is no way": at first, and when it was taken away; 1 hour and 200 hours are one. */
    private static void reasonFourNoWay() {
        reason("where no way was set", leg(x -> { }), 0, 2, NONE, 4);
        reason("where the way was taken away", behind(leg(x -> { }), t -> t.setWay(1, 0, 0)), 4);
        reason("where the way is the shortest", leg(x -> x.hours = 1), 0);
        reason("where the way is the longest", leg(x -> x.hours = 200), 0);
    }

    /** "5 a work in it or below it has no legs left": 0 and 1, in it, below it and below that. */
    private static void reasonFiveNoLegsLeft() {
        for (int odd = 0; odd < 3; odd++) {
            int one = odd;
            reason("no legs left of work " + odd, leg(x -> {
                x.odd = one;
                x.oddLegs = 0;
            }), 5);
        }
        reason("one leg left of each", leg(x -> { }), 0);
        reason("twenty legs left of one", leg(x -> x.oddLegs = 20), 0);
    }

    /** "the number of legs that are left decreases by 1": to none, with which it stays. */
    private static void reasonFiveBehindTheLastLeg() {
        Twin.Scene there = behind(leg(x -> { }), t -> {
            t.send(0, 1, NONE);
            return t.advance(10);
        });
        Expect.same("legs left of work 0", there.make().work(0, 2), 0);
        reason("back, with no legs left", there, 0, 0, NONE, 5);
        CrateTour t = leg(x -> x.oddLegs = 2).make();
        t.send(0, 1, NONE);
        t.advance(9);
        Expect.same("legs left an hour before it arrives", t.work(0, 2), 2);
        t.advance(1);
        Expect.same("legs left when it has arrived", t.work(0, 2), 1);
        t.advance(1);
        Expect.same("legs left an hour later", t.work(0, 2), 1);
    }

    /** "6 the lender of such a work has the venue in the set": by each venue's own bit. */
    private static void reasonSixBarred() {
        for (int to = 0; to < 8; to++) {
            int goal = to;
            Twin.Scene scene = leg(x -> {
                x.to = goal;
                x.from = goal == 0 ? 1 : 0;
            });
            reason("venue " + to + " alone in the set", behind(scene, t -> t.setLender(3, 3, 1 << goal)),
                    0, to, NONE, 6);
            reason("all venues but " + to, behind(scene, t -> t.setLender(3, 3, 255 - (1 << goal))), 0, to, NONE, 0);
            reason("all venues", behind(scene, t -> t.setLender(3, 3, 255)), 0, to, NONE, 6);
        }
    }

    /** ".. of such a work": in it, below it and below that, the others being fine. */
    private static void reasonSixOfEachWork() {
        for (int odd = 0; odd < 3; odd++) {
            int one = odd;
            reason("lender of work " + odd, behind(leg(x -> x.odd = one), t -> t.setLender(3, 3, 2)), 6);
            reason("lender of all others", behind(leg(x -> x.odd = one), t -> t.setLender(2, 3, 2)), 6);
        }
        reason("lender of no work", behind(leg(x -> { }), t -> t.setLender(1, 3, 255)), 0);
    }

    /** "7 the temperature of the venue is below the least one" */
    private static void reasonSevenBelowTheLeast() {
        climate("at the least one", 20, 50, 0, 20, 0);
        climate("a degree below the least one", 20, 50, 0, 21, 7);
        climate("at the least one that there can be", -10, 50, 0, -10, 0);
        climate("below it", -10, 50, 0, -9, 7);
        climate("at the greatest one, which is the least", 40, 50, 0, 40, 0);
    }

    /** "or above the greatest one" */
    private static void reasonSevenAboveTheGreatest() {
        climate("at the greatest one", 20, 50, 1, 20, 0);
        climate("a degree above the greatest one", 20, 50, 1, 19, 7);
        climate("at the greatest one that there can be", 40, 50, 1, 40, 0);
        climate("above it", 40, 50, 1, 39, 7);
        climate("at the least one, which is the greatest", -10, 50, 1, -10, 0);
    }

    /** "or its humidity is above the greatest one" */
    private static void reasonSevenTooHumid() {
        climate("at the greatest humidity", 20, 50, 2, 50, 0);
        climate("a percent above the greatest humidity", 20, 50, 2, 49, 7);
        climate("at the greatest humidity that there can be", 20, 90, 2, 90, 0);
        climate("above it", 20, 90, 2, 89, 7);
        climate("at the least humidity", 20, 20, 2, 20, 0);
    }

    private static void climate(String what, int temperature, int humidity, int which, int wish, int due) {
        reason(what, behind(leg(x -> {
            x.temperature = temperature;
            x.humidity = humidity;
        }), t -> t.setLender(3, which, wish)), due);
    }

    /** ".. of such a lender": in it, below it and below that, the others being fine. */
    private static void reasonSevenOfEachWork() {
        for (int odd = 0; odd < 3; odd++) {
            int one = odd;
            reason("lender of work " + odd, behind(leg(x -> x.odd = one), t -> t.setLender(3, 0, 21)), 7);
            reason("lender of all others", behind(leg(x -> x.odd = one), t -> t.setLender(2, 2, 49)), 7);
        }
        reason("lender of no work", behind(leg(x -> { }), t -> t.setLender(1, 1, -10)), 0);
    }

    /** A greatest temperature below the least one lets no venue be. */
    private static void reasonSevenGreatestBelowLeast() {
        for (int temperature : new int[] {18, 19, 20, 21, 22}) {
            Twin.Scene scene = leg(x -> x.temperature = temperature);
            reason("between 21 and 19, at " + temperature, behind(scene, t -> {
                t.setLender(3, 0, 21);
                return t.setLender(3, 1, 19);
            }), 7);
        }
    }

    /** It is the climate of the goal as it is now, not that of the venue where the crate is. */
    private static void reasonSevenByTheClimateOfNow() {
        Twin.Scene strict = behind(leg(x -> { }), t -> t.setLender(3, 0, 20));
        reason("when the goal has become too cold", behind(strict, t -> t.setClimate(1, 19, 50)), 7);
        reason("when its own venue has become too cold", behind(strict, t -> t.setClimate(0, 19, 50)), 0);
    }

    /** "8 the values of all works in it or below it .. together are above the cap of the venue" */
    private static void reasonEightOfItsWorks() {
        reason("as much as the cap", leg(x -> x.cap = 300), 0);
        reason("1 above the cap", leg(x -> x.cap = 299), 8);
        reason("above a cap of nought", leg(x -> x.cap = 0), 8);
    }

    /** "and of all other works that are at the venue or on their way to it (in crates or not)" */
    private static void reasonEightOfOtherWorks() {
        reason("as much as the cap", () -> crowded(4123), 0);
        reason("1 above the cap", () -> crowded(4122), 8);
        reason("an empty crate, as much as the cap", () -> crowded(4023), 4, 1, NONE, 0);
        reason("an empty crate, 1 above the cap", behind(() -> crowded(4023), t -> t.addWork(1, 0, 1, 9, false)),
                4, 1, NONE, 8);
        Twin.Scene unpacked = behind(() -> crowded(4123), t -> t.addWork(1, 0, 1, 9, false));
        reason("1 above the cap by a new work", unpacked, 8);
        Twin.Scene arrived = behind(() -> crowded(4123), t -> t.advance(10));
        reason("as much as the cap when the others have arrived", arrived, 0);
    }

    /**
     * A work of 100 in crate 0 at venue 0, one of 20 in crate 1 on its way from there to venue 1, one of 3 in
     * crate 2 there, one of 4000 there in no crate. What is at venue 0 otherwise, and in crate 3 on its way from
     * venue 1 to venue 2, does not count. Crate 4 at venue 0 is empty.
     */
    private static CrateTour crowded(int cap) {
        CrateTour t = new CrateTour();
        t.addVenue(20, 50, 10, 0);
        t.addVenue(20, 50, 10, cap);
        t.addVenue(20, 50, 10, 10_000_000);
        t.setWay(0, 1, 10);
        t.setWay(1, 2, 10);
        int[] values = {100, 20, 3, 50_000};
        for (int i = 0; i < 4; i++) {
            t.addCrate(i < 2 ? 0 : 1, 1);
            t.addWork(i < 2 ? 0 : 1, i, values[i], 9, false);
            t.pack(i, i);
            t.close(i);
        }
        t.addWork(0, 0, 70_000, 9, false);
        t.addCrate(0, 1);
        t.close(4);
        t.send(3, 2, NONE);
        t.send(1, 1, NONE);
        t.addWork(1, 0, 4000, 9, false);
        return t;
    }

    /** The greatest cap, and the least one for a crate without works. */
    private static void reasonEightAtTheEndsOfTheCap() {
        Twin.Scene scene = leg(x -> x.cap = 10_000_000);
        Twin.Scene nine = () -> {
            CrateTour t = scene.make();
            for (int i = 0; i < 9; i++) {
                t.addWork(1, 0, 1_000_000, 0, false);
            }
            t.addWork(1, 0, 999_700, 0, false);
            return t;
        };
        reason("as much as the greatest cap", nine, 0);
        reason("1 above the greatest cap", behind(nine, t -> t.addWork(1, 0, 1, 0, false)), 8);
        Twin.Scene nought = behind(leg(x -> x.cap = 0), t -> t.close(3));
        reason("an empty crate to a cap of nought", nought, 3, 1, NONE, 0);
    }

    /** "9 such a work needs a courier, and there is none": in it, below it and below that. */
    private static void reasonNineNeedsACourier() {
        for (int odd = 0; odd < 3; odd++) {
            int one = odd;
            Twin.Scene scene = leg(x -> {
                x.odd = one;
                x.oddEscorted = true;
            });
            reason("work " + odd + " without a courier", scene, 9);
            reason("work " + odd + " with a courier", scene, 0, 1, 0, 0);
        }
        reason("a work beside the crate needs one", leg(x -> { }), 0);
        Twin.Scene sixteen = behind(Scenes::full, t -> {
            t.pack(14, 6);
            return t.close(6);
        });
        reason("with sixteen works, of which others need one", behind(sixteen, t -> t.setWay(6, 0, 5)), 6, 0, NONE, 0);
    }

    /** "10 the courier is on the way": until the hour before the arrival. */
    private static void reasonTenOnTheWay() {
        Twin.Scene scene = behind(leg(x -> { }), t -> {
            t.close(3);
            t.send(3, 1, 0);
            t.advance(10);
            return t.send(3, 0, 0);
        });
        reason("a courier on the way to this venue", scene, 0, 1, 0, 10);
        reason("the hour before", behind(scene, t -> t.advance(9)), 0, 1, 0, 10);
        reason("the hour in which the courier arrives", behind(scene, t -> t.advance(10)), 0, 1, 0, 0);
        reason("without a courier, none being needed", scene, 0);
    }

    /** "or not at the venue of the crate": at the goal, or elsewhere, also if no work needs one. */
    private static void reasonTenElsewhere() {
        reason("a courier at the goal", leg(x -> { }), 0, 1, 1, 10);
        reason("a courier at a third venue", behind(leg(x -> { }), t -> t.addCourier(7)), 0, 1, 2, 10);
        reason("a courier at the goal, one being needed", leg(x -> x.oddEscorted = true), 0, 1, 1, 10);
        reason("an empty crate", behind(leg(x -> { }), t -> t.close(3)), 3, 1, 1, 10);
    }

    // ---- the order of the reasons

    /** "are, in this order": all that can stand against a leg at once, in every choice; the first one is told. */
    private static void reasonsInOrder() {
        for (int choice = 0; choice < 128; choice++) {
            for (int courier = -1; courier <= 1; courier++) {
                reasonOfChoice(choice, courier, false);
                reasonOfChoice(choice, courier, true);
            }
        }
    }

    private static void reasonOfChoice(int choice, int courier, boolean escorted) {
        CrateTour t = leg(x -> {
            x.open = (choice & 1) != 0;
            x.inAnother = (choice & 2) != 0;
            x.oddLegs = (choice & 8) != 0 ? 0 : 1;
            x.cap = (choice & 64) != 0 ? 299 : 300;
            x.oddEscorted = escorted;
        }).make();
        t.setWay(0, 1, (choice & 4) != 0 ? 0 : 10);
        t.setLender(3, 3, (choice & 16) != 0 ? 2 : 0);
        t.setLender(3, 1, (choice & 32) != 0 ? 19 : 20);
        int[] reasons = {1, 2, 4, 5, 6, 7, 8};
        int due = courier == 1 ? 10 : courier == NONE && escorted ? 9 : 0;
        for (int i = reasons.length - 1; i >= 0; i--) {
            due = (choice & 1 << i) != 0 ? reasons[i] : due;
        }
        Expect.same("refusal(0, 1, " + courier + ") of choice " + choice, t.refusal(0, 1, courier), due);
    }

    /** A crate on its way: 3 comes before 4 and all that follow. */
    private static void reasonsInOrderOnTheWay() {
        for (int to = 0; to < 3; to++) {
            for (int courier = -1; courier <= 1; courier++) {
                CrateTour t = leg(x -> x.oddEscorted = true).make();
                t.send(0, 1, 0);
                t.setLender(3, 3, 255);
                t.setLender(3, 1, 19);
                t.addWork(to, 0, 1_000_000, 0, false);
                Expect.same("refusal(0, " + to + ", " + courier + ")", t.refusal(0, to, courier), 3);
            }
        }
    }

    // ---- what sending does

    /** "Returns the time at which it arrives": by the shortest and the longest way, from time 0 and later. */
    private static void sendReturnsTheArrival() {
        for (int hours : new int[] {1, 200}) {
            for (int waited : new int[] {0, 1, 240}) {
                CrateTour t = leg(x -> x.hours = hours).make();
                if (waited > 0) {
                    t.advance(waited);
                }
                Expect.same("send", t.send(0, 1, NONE), waited + hours);
                Expect.same("crate(0, 5)", t.crate(0, 5), waited + hours);
                Expect.same("advance to the hour before", hours == 1 ? 0 : t.advance(hours - 1), 0);
                Expect.same("venue of crate 0 then", t.crate(0, 3), NONE);
                Expect.same("advance(1)", t.advance(1), 1);
                Expect.same("venue of crate 0 then", t.crate(0, 3), 1);
                Expect.same("crate 0 waits since", t.crate(0, 8), waited + hours);
            }
        }
    }

    private static void sendIsUndoable() {
        Twin.isUndoable("send(0, 1, NONE)", Scenes::busy, t -> t.send(0, 1, NONE), 80);
        Twin.isUndoable("send(0, 1, 0)", Scenes::busy, t -> t.send(0, 1, 0), 80);
    }
}
