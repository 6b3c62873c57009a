import java.util.ArrayList;
import java.util.List;
import java.util.Random;

/**
 * Long runs of calls, drawn with fixed seeds, on the program and on PlainTour: every answer, every
 * exception and every digest must be the same. Each second run looks at the digest behind every call, the
 * others at the end alone; with these, no object is used for more than 512 calls, for what later ones answer
 * is free. Arguments: first seed, number of runs.
 */
public final class CrateTourModelTest {
    private static final int CALLS = 512;

    /** A call with its arguments, as it can be made on both. */
    private record Step(String name, int... n) {
        long on(CrateTour t) {
            return switch (name) {
                case "addVenue" -> t.addVenue(n[0], n[1], n[2], n[3]);
                case "setClimate" -> t.setClimate(n[0], n[1], n[2]);
                case "setWay" -> t.setWay(n[0], n[1], n[2]);
                case "setLender" -> t.setLender(n[0], n[1], n[2]);
                case "setWayRate" -> t.setWayRate(n[0]);
                case "addCourier" -> t.addCourier(n[0]);
                case "addCrate" -> t.addCrate(n[0], n[1]);
                case "addWork" -> t.addWork(n[0], n[1], n[2], n[3], n[4] == 1);
                case "open" -> t.open(n[0]);
                case "close" -> t.close(n[0]);
                case "nest" -> t.nest(n[0], n[1]);
                case "takeOut" -> t.takeOut(n[0]);
                case "pack" -> t.pack(n[0], n[1]);
                case "unpack" -> t.unpack(n[0]);
                case "send" -> t.send(n[0], n[1], n[2]);
                case "advance" -> t.advance(n[0]);
                case "refusal" -> t.refusal(n[0], n[1], n[2]);
                case "crate" -> t.crate(n[0], n[1]);
                case "work" -> t.work(n[0], n[1]);
                case "noted" -> t.noted(n[0], n[1]);
                case "venue" -> t.venue(n[0], n[1]);
                case "courier" -> t.courier(n[0]);
                case "whole" -> t.whole(n[0]);
                case "readyAt" -> t.readyAt(n[0]);
                case "allReadyAt" -> t.allReadyAt(n[0]);
                case "bestVenue" -> t.bestVenue(n[0], n[1]);
                case "type" -> t.type(n[0]);
                case "clearCommands" -> t.clearCommands();
                case "runCommands" -> t.runCommands();
                case "undo" -> t.undo();
                default -> t.digest();
            };
        }

        long on(PlainTour t) {
            return switch (name) {
                case "addVenue" -> t.addVenue(n[0], n[1], n[2], n[3]);
                case "setClimate" -> t.setClimate(n[0], n[1], n[2]);
                case "setWay" -> t.setWay(n[0], n[1], n[2]);
                case "setLender" -> t.setLender(n[0], n[1], n[2]);
                case "setWayRate" -> t.setWayRate(n[0]);
                case "addCourier" -> t.addCourier(n[0]);
                case "addCrate" -> t.addCrate(n[0], n[1]);
                case "addWork" -> t.addWork(n[0], n[1], n[2], n[3], n[4] == 1);
                case "open" -> t.open(n[0]);
                case "close" -> t.close(n[0]);
                case "nest" -> t.nest(n[0], n[1]);
                case "takeOut" -> t.takeOut(n[0]);
                case "pack" -> t.pack(n[0], n[1]);
                case "unpack" -> t.unpack(n[0]);
                case "send" -> t.send(n[0], n[1], n[2]);
                case "advance" -> t.advance(n[0]);
                case "refusal" -> t.refusal(n[0], n[1], n[2]);
                case "crate" -> t.crate(n[0], n[1]);
                case "work" -> t.work(n[0], n[1]);
                case "noted" -> t.noted(n[0], n[1]);
                case "venue" -> t.venue(n[0], n[1]);
                case "courier" -> t.courier(n[0]);
                case "whole" -> t.whole(n[0]);
                case "readyAt" -> t.readyAt(n[0]);
                case "allReadyAt" -> t.allReadyAt(n[0]);
                case "bestVenue" -> t.bestVenue(n[0], n[1]);
                case "type" -> t.type(n[0]);
                case "clearCommands" -> t.clearCommands();
                case "runCommands" -> t.runCommands();
                case "undo" -> t.undo();
                default -> t.digest();
            };
        }

        String text() {
            StringBuilder s = new StringBuilder(name).append('(');
            for (int i = 0; i < n.length; i++) {
                s.append(i == 0 ? "" : ", ").append(n[i]);
            }
            return s.append(')').toString();
        }
    }

    private final Random random;
    private final CrateTour tour = new CrateTour();
    private final PlainTour plain = new PlainTour();
    private final List<String> trail = new ArrayList<>();
    private final int[] answered;
    private final boolean digestsEach;
    private int calls = 0;

    private CrateTourModelTest(long seed, int[] answered) {
        random = new Random(seed);
        this.answered = answered;
        digestsEach = seed % 2 == 0;
    }

    public static void main(String[] args) {
        long first = args.length > 0 ? Long.parseLong(args[0]) : 1;
        int runs = args.length > 1 ? Integer.parseInt(args[1]) : 300;
        int[] answered = new int[11];
        for (long seed = first; seed < first + runs && Expect.wrong() == 0; seed++) {
            new CrateTourModelTest(seed, answered).run(seed);
        }
        System.out.println("reasons met by refusal(), 0 to 10: " + java.util.Arrays.toString(answered));
        for (int reason = 0; reason <= 10; reason++) {
            Expect.isTrue("reason " + reason + " was met", answered[reason] > 0);
        }
        Expect.done("CrateTourModelTest");
    }

    private void run(long seed) {
        setUp();
        while (!isUsedUp() && Expect.wrong() == 0) {
            doSomething();
        }
        if (Expect.wrong() == 0) {
            Expect.same("digest at the end", tour.digest(), plain.digest());
        }
        if (Expect.wrong() > 0) {
            System.out.println("seed " + seed + ", the calls up to there:");
            for (String line : trail) {
                System.out.println("  " + line);
            }
        }
    }

    /** Whether a call, its digest and the digest at the end would be one too many. */
    private boolean isUsedUp() {
        return calls + 3 > CALLS;
    }

    private void call(String name, int... n) {
        if (isUsedUp()) {
            return;
        }
        calls += digestsEach ? 2 : 1;
        Step step = new Step(name, n);
        String got = answer(step, true);
        String due = answer(step, false);
        trail.add(step.text() + " -> " + got);
        Expect.isTrue(step.text() + " answered " + got + ", due is " + due, got.equals(due));
        if (digestsEach) {
            Expect.same("digest behind " + step.text(), tour.digest(), plain.digest());
        }
        if (name.equals("refusal") && got.matches("\\d+")) {
            answered[Integer.parseInt(got)]++;
        }
    }

    private String answer(Step step, boolean ofTour) {
        try {
            return Long.toString(ofTour ? step.on(tour) : step.on(plain));
        } catch (RuntimeException e) {
            return "throws." + e.getClass().getSimpleName();
        }
    }

    /** A number from low to high; now and then one just outside, or far away. */
    private int near(int low, int high) {
        int dice = random.nextInt(60);
        if (dice == 0) {
            return low - 1;
        }
        if (dice == 1) {
            return high + 1;
        }
        if (dice == 2) {
            int[] far = {Integer.MIN_VALUE, Integer.MAX_VALUE, -1, 0, 1 << 20};
            return far[random.nextInt(far.length)];
        }
        if (dice < 8) {
            return random.nextBoolean() ? low : high;
        }
        return low + random.nextInt(Math.max(1, high - low + 1));
    }

    private int venue() {
        return near(0, plain.whole(1) - 1);
    }

    private int crate() {
        return near(0, plain.whole(2) - 1);
    }

    private int work() {
        return near(0, plain.whole(3) - 1);
    }

    private int courier() {
        return random.nextInt(3) == 0 ? -1 : near(0, plain.whole(4) - 1);
    }

    private void setUp() {
        int venues = 2 + random.nextInt(7);
        boolean mild = random.nextBoolean();
        for (int i = 0; i < venues; i++) {
            newVenue(mild);
        }
        for (int i = 0; i < 2 * venues; i++) {
            newWay();
        }
        int crates = 2 + random.nextInt(11);
        for (int i = 0; i < crates; i++) {
            call("addCrate", random.nextInt(3) == 0 ? venue() : 0, near(1, 4));
        }
        int works = 2 + random.nextInt(15);
        for (int i = 0; i < works; i++) {
            newWork(random.nextInt(3) == 0 ? venue() : 0);
        }
        int couriers = random.nextInt(5);
        for (int i = 0; i < couriers; i++) {
            call("addCourier", random.nextInt(3) == 0 ? venue() : 0);
        }
        for (int i = random.nextInt(4); i > 0; i--) {
            newWish();
        }
    }

    private void newVenue(boolean mild) {
        int cap = random.nextInt(4) == 0 ? near(0, 2_000_000) : near(0, 10_000_000);
        call("addVenue", mild ? near(18, 24) : near(-10, 40), mild ? near(45, 55) : near(20, 90),
                near(0, 500), cap);
    }

    private void newWay() {
        call("setWay", venue(), venue(), random.nextInt(8) == 0 ? near(0, 200) : near(1, 30));
    }

    private void newWork(int venue) {
        call("addWork", venue, near(0, 5), near(1, 1_000_000),
                random.nextInt(4) == 0 ? near(0, 2) : near(0, 20), random.nextInt(5) == 0 ? 1 : 0);
    }

    private void newWish() {
        int what = near(0, 3);
        int value = switch (what) {
            case 0 -> random.nextInt(3) == 0 ? near(-10, 40) : near(-10, 10);
            case 1 -> random.nextInt(3) == 0 ? near(-10, 40) : near(20, 40);
            case 2 -> random.nextInt(3) == 0 ? near(20, 90) : near(60, 90);
            default -> random.nextInt(3) == 0 ? near(0, 255) : 1 << random.nextInt(8);
        };
        call("setLender", near(0, 5), what, value);
    }

    private void doSomething() {
        int dice = random.nextInt(100);
        if (dice < 12) {
            call("close", crate());
        } else if (dice < 19) {
            call("open", crate());
        } else if (dice < 27) {
            call("nest", crate(), crate());
        } else if (dice < 29) {
            call("takeOut", crate());
        } else if (dice < 38) {
            call("pack", work(), crate());
        } else if (dice < 41) {
            call("unpack", work());
        } else if (dice < 54) {
            sendSomething();
        } else if (dice < 64) {
            call("advance", random.nextInt(4) == 0 ? near(1, 240) : near(1, 30));
        } else if (dice < 70) {
            changeSomething();
        } else if (dice < 73) {
            runSomeText();
        } else if (dice < 77) {
            for (int i = random.nextInt(6); i >= 0; i--) {
                call("undo");
            }
        } else {
            askSomething();
        }
    }

    private void sendSomething() {
        int crate = crate();
        int to = venue();
        int courier = courier();
        for (int tries = 0; tries < 4; tries++) {
            if (plain.whole(2) > 0 && crate >= 0 && crate < plain.whole(2)
                    && plain.crate(crate, 1) == 0 && plain.crate(crate, 2) == -1) {
                break;
            }
            crate = crate();
        }
        call("refusal", crate, to, courier);
        call(random.nextInt(8) == 0 ? "bestVenue" : "send", crate, to, courier);
    }

    private void changeSomething() {
        switch (random.nextInt(9)) {
            case 0 -> newVenue(random.nextBoolean());
            case 1 -> newWay();
            case 2, 3 -> newWish();
            case 4 -> call("setClimate", venue(), near(-10, 40), near(20, 90));
            case 5 -> call("setWayRate", near(0, 5000));
            case 6 -> call("addCourier", venue());
            case 7 -> call("addCrate", venue(), near(1, 4));
            default -> newWork(venue());
        }
    }

    private void askSomething() {
        switch (random.nextInt(10)) {
            case 0 -> call("refusal", crate(), venue(), courier());
            case 1 -> call("crate", crate(), near(0, 13));
            case 2 -> call("work", work(), near(0, 7));
            case 3 -> call("noted", work(), near(0, 10));
            case 4 -> call("venue", venue(), near(0, 8));
            case 5 -> call("courier", near(0, plain.whole(4) - 1));
            case 6 -> call("whole", near(0, 9));
            case 7 -> call("readyAt", work());
            case 8 -> call("allReadyAt", crate());
            default -> call("bestVenue", crate(), courier());
        }
    }

    private void runSomeText() {
        if (random.nextInt(6) > 0) {
            call("clearCommands");
        }
        String text = someText();
        if (random.nextInt(6) == 0) {
            text = spoiled(text);
        }
        for (int i = 0; i < text.length(); i++) {
            call("type", text.charAt(i));
        }
        if (random.nextInt(20) == 0) {
            call("type", near(0, 127));
        }
        call("runCommands");
        if (random.nextInt(3) == 0) {
            call("runCommands");
        }
    }

    private String someText() {
        StringBuilder text = new StringBuilder(spaces(6));
        for (int i = random.nextInt(6); i > 0; i--) {
            String[] words = {"open", "close", "nest", "out", "pack", "unpack", "send", "escort", "wait"};
            int word = random.nextInt(words.length);
            text.append(words[word]);
            int[] numbers = switch (word) {
                case 0, 1, 3 -> new int[] {crate()};
                case 2 -> new int[] {crate(), crate()};
                case 4 -> new int[] {work(), crate()};
                case 5 -> new int[] {work()};
                case 6 -> new int[] {crate(), venue()};
                case 7 -> new int[] {crate(), venue(), near(0, 3)};
                default -> new int[] {near(1, 100)};
            };
            for (int n : numbers) {
                String digits = Integer.toString(Math.abs(n % 10000));
                String zeros = random.nextInt(8) == 0 ? "000".substring(0, 4 - digits.length()) : "";
                text.append(' ').append(spaces(8)).append(zeros).append(digits);
            }
            text.append(spaces(6)).append(';').append(spaces(6));
        }
        return text.toString();
    }

    private String spaces(int rarity) {
        return random.nextInt(rarity) == 0 ? "  ".substring(random.nextInt(2)) : "";
    }

    private String spoiled(String text) {
        if (text.isEmpty()) {
            return ";";
        }
        int at = random.nextInt(text.length());
        String marks = " ;az09A{`/:";
        String mark = String.valueOf(marks.charAt(random.nextInt(marks.length())));
        return switch (random.nextInt(4)) {
            case 0 -> text.substring(0, at);
            case 1 -> text.substring(0, at) + text.substring(at + 1);
            case 2 -> text.substring(0, at) + mark + text.substring(at);
            default -> text.substring(0, at) + mark + text.substring(at + 1);
        };
    }
}
