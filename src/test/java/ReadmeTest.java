import java.io.IOException;
import java.lang.management.ManagementFactory;
import java.nio.file.Files;
import java.nio.file.Path;
import java.util.ArrayList;
import java.util.LinkedHashMap;
import java.util.List;
import java.util.Map;
import java.util.TreeSet;
import java.util.regex.Matcher;
import java.util.regex.Pattern;
import java.util.stream.Stream;

/**
 * What README.md shows is so. Its examples stand here too, line by line between two marks, so that they are
 * compiled and run; the number behind // is what the variable of its line must be. To be run in the
 * project's own directory, as .ci/run does.
 */
public final class ReadmeTest {
    private static final Path README = Path.of("README.md");
    private static final Path OWN_SOURCE = Path.of("src/test/java/ReadmeTest.java");
    private static final Pattern SHOWN = Pattern.compile("int (\\w+) = .*; +// (-?\\d+)(: .*)?");
    private static final int ROUNDS = 500;
    private static final int LEAST_BYTES_OF_AN_OBJECT = 8;

    public static void main(String[] args) {
        Expect.all(ReadmeTest.class);
        Expect.done("ReadmeTest");
    }

    private static Map<String, Integer> tourOfOneCrate() {
        // README begins
        CrateTour tour = new CrateTour();
        int home = tour.addVenue(20, 50, 10, 1_000_000);             // 0: 20 degrees, 50 %, rate 10, cap 1000000
        int away = tour.addVenue(10, 40, 20, 500_000);               // 1
        tour.setWay(home, away, 30);
        int crate = tour.addCrate(home, 2);                          // 0: it is open
        int work = tour.addWork(home, 0, 200_000, 3, false);         // 0: of lender 0, with 3 legs left
        tour.pack(work, crate);
        int open = tour.refusal(crate, away, CrateTour.NONE);        // 1: it may not be sent, for it is open
        tour.close(crate);
        int best = tour.bestVenue(crate, CrateTour.NONE);            // 1
        int arrival = tour.send(crate, best, CrateTour.NONE);        // 30
        int ready = tour.readyAt(work);                              // 40: the crate waits 10 hours at venue 1
        int arrived = tour.advance(48);                              // 1: one crate, and two days have ended
        int latest = tour.noted(work, 0);                            // 1: the place at the end of the second day
        int first = tour.noted(work, 1);                             // 8: the work was on its way
        int paid = tour.work(work, 7);                               // 2400: 2000 on its way, 400 at venue 1
        int left = tour.undo();                                      // 3: states that can still be restored
        int time = tour.whole(0);                                    // 0: the hours have not passed now
        // README ends
        Map<String, Integer> values = new LinkedHashMap<>();
        values.put("home", home);
        values.put("away", away);
        values.put("crate", crate);
        values.put("work", work);
        values.put("open", open);
        values.put("best", best);
        values.put("arrival", arrival);
        values.put("ready", ready);
        values.put("arrived", arrived);
        values.put("latest", latest);
        values.put("first", first);
        values.put("paid", paid);
        values.put("left", left);
        values.put("time", time);
        return values;
    }

    private static Map<String, Integer> textOfCommands() {
        // README begins
        CrateTour tour = new CrateTour();
        tour.addVenue(20, 50, 10, 1_000_000);
        tour.addCrate(0, 1);
        for (char letter : "close 0; wait 24; open 0; open 0;".toCharArray()) {
            tour.type(letter);
        }
        int done = tour.runCommands();                               // 3: an open crate cannot be opened
        int hours = tour.whole(0);                                   // 24
        int saved = tour.undo();                                     // 2: all three commands are undone
        int length = tour.clearCommands();                           // 33
        tour.type('w');
        int fault = tour.runCommands();                              // -10: minus 10, minus the fault at index 0
        // README ends
        Map<String, Integer> values = new LinkedHashMap<>();
        values.put("done", done);
        values.put("hours", hours);
        values.put("saved", saved);
        values.put("length", length);
        values.put("fault", fault);
        return values;
    }

    /** The examples of README.md are the ones that stand here. */
    private static void examplesAreTheOnesThatRun() {
        List<String> shown = between(lines(README), "```java", "```");
        List<String> run = between(lines(OWN_SOURCE), "// README begins", "// README ends");
        Expect.isTrue("README.md holds examples", !shown.isEmpty());
        Expect.isTrue("lines shown that do not run, or the other way about: " + difference(shown, run),
                shown.equals(run));
    }

    /** Each number behind // is the value of the variable in front of it, and each variable has one. */
    private static void examplesAnswerAsTheySay() {
        Map<String, Integer> values = tourOfOneCrate();
        values.putAll(textOfCommands());
        TreeSet<String> named = new TreeSet<>();
        for (String line : between(lines(README), "```java", "```")) {
            Matcher m = SHOWN.matcher(line);
            Expect.isTrue("a variable without a number: " + line, m.matches() || !line.startsWith("int "));
            if (m.matches() && values.containsKey(m.group(1))) {
                Expect.same(m.group(1), values.get(m.group(1)), Integer.parseInt(m.group(2)));
                named.add(m.group(1));
            }
        }
        Expect.isTrue("variables shown: " + named, named.equals(new TreeSet<>(values.keySet())));
    }

    /** "the command text stays" and "all three commands are undone", "up to four times" */
    private static void undoIsAsItSays() {
        CrateTour tour = Scenes.full();
        int length = 150;
        for (int left = 3; left >= 0; left--) {
            Expect.same("undo()", tour.undo(), left);
        }
        Expect.raises("a fifth undo()", Expect.STATE, tour::undo);
        Expect.same("length of the text behind it", tour.clearCommands(), length);
    }

    /** The table of tests names each test that .ci/run finds, and no other. */
    private static void tableOfTests() throws IOException {
        TreeSet<String> found = new TreeSet<>();
        try (Stream<Path> files = Files.list(Path.of("src/test/java"))) {
            files.map(file -> file.getFileName().toString()).filter(name -> name.endsWith("Test.java"))
                    .forEach(name -> found.add(name.substring(0, name.length() - ".java".length())));
        }
        TreeSet<String> listed = namesIn("| test | what it looks at |");
        Expect.isTrue("tests listed: " + listed + ", found: " + found, listed.equals(found));
    }

    /** The table of classes names each class of the program, and no other. */
    private static void tableOfClasses() {
        TreeSet<String> found = new TreeSet<>();
        found.add(CrateTour.class.getSimpleName());
        for (Class<?> inside : CrateTour.class.getDeclaredClasses()) {
            found.add(inside.getSimpleName());
        }
        TreeSet<String> listed = namesIn("| class | what it does |");
        Expect.isTrue("classes listed: " + listed + ", found: " + found, listed.equals(found));
    }

    /** "No call makes an object but for the exception that it throws": the bytes that calls take are none. */
    private static void callsMakeNoObjects() {
        // Twice as many rounds in front let the machine load what it needs.
        bytesOfCalls(2 * ROUNDS);
        long bytes = bytesOfCalls(ROUNDS);
        Expect.isTrue(ROUNDS + " rounds of calls took " + bytes + " bytes",
                bytes >= 0 && bytes < (long) LEAST_BYTES_OF_AN_OBJECT * ROUNDS);
    }

    private static long bytesOfCalls(int rounds) {
        CrateTour[] tours = new CrateTour[rounds];
        for (int i = 0; i < rounds; i++) {
            tours[i] = i % 2 == 0 ? Scenes.busy() : Scenes.full();
        }
        com.sun.management.ThreadMXBean bean =
                (com.sun.management.ThreadMXBean) ManagementFactory.getThreadMXBean();
        long self = Thread.currentThread().getId();
        long before = bean.getThreadAllocatedBytes(self);
        for (CrateTour tour : tours) {
            callAll(tour);
        }
        return bean.getThreadAllocatedBytes(self) - before;
    }

    /** One call of each kind that throws nothing, on a tour of Scenes.busy() or Scenes.full(). */
    private static void callAll(CrateTour t) {
        t.runCommands();
        t.undo();
        t.clearCommands();
        t.type(' ');
        if (t.whole(1) < 8) {
            t.addVenue(20, 50, 0, 0);
            t.addCourier(0);
            t.addCrate(0, 1);
            t.addWork(0, 0, 1, 20, false);
        }
        t.setClimate(0, 20, 50);
        t.setWay(0, 1, 10);
        t.setLender(0, 0, -10);
        t.setWayRate(100);
        t.close(9);
        t.nest(9, t.crate(2, 3) == 0 ? 2 : 1);
        t.takeOut(9);
        t.refusal(9, 0, 0);
        int best = t.bestVenue(9, CrateTour.NONE);
        if (best != CrateTour.NONE) {
            t.send(9, best, CrateTour.NONE);
            t.undo();
        }
        t.open(9);
        int crates = t.whole(2);
        int work = t.whole(3) - 1;
        t.pack(work, t.work(work, 5) == t.crate(9, 3) ? 9 : 7);
        t.unpack(work);
        t.advance(240);
        for (int crate = 0; crate < crates; crate++) {
            t.crate(crate, 12);
            t.allReadyAt(crate);
        }
        t.noted(work, 0);
        t.readyAt(work);
        t.venue(0, 5);
        t.courier(0);
        t.digest();
    }

    // ---- reading

    private static List<String> lines(Path file) {
        try {
            return Files.readAllLines(file);
        } catch (IOException e) {
            Expect.fail(file + " cannot be read");
            return List.of();
        }
    }

    /** The lines between a first and a last one, wherever these stand, without what is empty around them. */
    private static List<String> between(List<String> lines, String first, String last) {
        List<String> found = new ArrayList<>();
        boolean inside = false;
        for (String line : lines) {
            String text = line.strip();
            if (text.equals(inside ? last : first)) {
                inside = !inside;
            } else if (inside) {
                found.add(text);
            }
        }
        return found;
    }

    private static List<String> difference(List<String> some, List<String> others) {
        List<String> left = new ArrayList<>(some);
        left.removeAll(others);
        List<String> right = new ArrayList<>(others);
        right.removeAll(some);
        left.addAll(right);
        return left;
    }

    /** The names in the first column of the table of README.md that begins so, and in "with `A`, `B`". */
    private static TreeSet<String> namesIn(String head) {
        TreeSet<String> names = new TreeSet<>();
        Pattern name = Pattern.compile("`(\\w+)`");
        boolean inside = false;
        for (String line : lines(README)) {
            inside = line.equals(head) || inside && line.startsWith("|");
            if (inside) {
                Matcher m = name.matcher(line.split("\\|")[1]);
                while (m.find()) {
                    names.add(m.group(1));
                }
            }
        }
        return names;
    }
}
