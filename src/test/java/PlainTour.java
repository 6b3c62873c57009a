import java.io.ByteArrayInputStream;
import java.io.ByteArrayOutputStream;
import java.io.IOException;
import java.io.ObjectInputStream;
import java.io.ObjectOutputStream;
import java.io.Serializable;
import java.util.ArrayList;
import java.util.List;
import java.util.Map;
import java.util.TreeMap;
import java.util.regex.Matcher;
import java.util.regex.Pattern;

/**
 * A second reading of the document, slow and plain, with which CrateTourModelTest compares the program.
 * It holds objects that point at one another, and copies them whole for undo and for trial sendings.
 */
final class PlainTour {
    static final int NONE = -1;

    private static final class Venue implements Serializable {
        int temperature, humidity, rate, cap, paid;
        Map<Integer, Integer> ways = new TreeMap<>();
    }

    private static final class Lender implements Serializable {
        int[] values = {-10, 40, 90, 0};
    }

    private static final class Courier implements Serializable {
        Venue at;
    }

    private static final class Crate implements Serializable {
        int insulation, temperature, humidity, since, arrival;
        boolean open = true;
        Crate in;
        Venue at, goal;
        Courier courier;
        List<Crate> crates = new ArrayList<>();
        List<Work> works = new ArrayList<>();

        Crate root() {
            return in == null ? this : in.root();
        }

        boolean reachable() {
            return in == null ? at != null : in.open && in.reachable();
        }

        List<Work> allWorks() {
            List<Work> all = new ArrayList<>(works);
            for (Crate c : crates) {
                all.addAll(c.allWorks());
            }
            return all;
        }

        int below() {
            int n = 0;
            for (Crate c : crates) {
                n += 1 + c.below();
            }
            return n;
        }

        int needs(Venue v) {
            int sum = 4 * Math.abs(temperature - v.temperature) + Math.abs(humidity - v.humidity);
            return Math.floorDiv(insulation * sum, 10);
        }
    }

    private static final class Work implements Serializable {
        int lender, value, legs, paid;
        boolean escorted;
        Crate in;
        Venue at;
        List<Integer> places = new ArrayList<>();

        Venue place() {
            return in == null ? at : in.root().at;
        }
    }

    private static final class All implements Serializable {
        int time, wayRate = 100, paid, wayPaid, arrived;
        List<Venue> venues = new ArrayList<>();
        List<Crate> crates = new ArrayList<>();
        List<Work> works = new ArrayList<>();
        List<Courier> couriers = new ArrayList<>();
        List<Lender> lenders = new ArrayList<>();
    }

    private All all = new All();
    private final List<byte[]> undo = new ArrayList<>();
    private final StringBuilder text = new StringBuilder();
    private boolean quiet = false;

    PlainTour() {
        for (int i = 0; i < 6; i++) {
            all.lenders.add(new Lender());
        }
    }

    private static byte[] freeze(All a) {
        try {
            ByteArrayOutputStream bytes = new ByteArrayOutputStream(8192);
            ObjectOutputStream out = new ObjectOutputStream(bytes);
            out.writeObject(a);
            out.flush();
            return bytes.toByteArray();
        } catch (IOException e) {
            throw new AssertionError(e);
        }
    }

    private static All thaw(byte[] b) {
        try {
            return (All) new ObjectInputStream(new ByteArrayInputStream(b)).readObject();
        } catch (IOException | ClassNotFoundException e) {
            throw new AssertionError(e);
        }
    }

    private void save() {
        if (quiet) {
            return;
        }
        undo.add(freeze(all));
        while (undo.size() > 4) {
            undo.remove(0);
        }
    }

    private static void index(boolean ok) {
        if (!ok) {
            throw new IndexOutOfBoundsException();
        }
    }

    private static void argument(boolean ok) {
        if (!ok) {
            throw new IllegalArgumentException();
        }
    }

    private static void state(boolean ok) {
        if (!ok) {
            throw new IllegalStateException();
        }
    }

    private static boolean within(int v, int low, int high) {
        return low <= v && v <= high;
    }

    private static boolean in(List<?> list, int n) {
        return within(n, 0, list.size() - 1);
    }

    int addVenue(int t, int h, int rate, int cap) {
        argument(within(t, -10, 40) && within(h, 20, 90) && within(rate, 0, 500)
                && within(cap, 0, 10_000_000));
        state(all.venues.size() != 8);
        save();
        Venue v = new Venue();
        v.temperature = t;
        v.humidity = h;
        v.rate = rate;
        v.cap = cap;
        all.venues.add(v);
        return all.venues.size() - 1;
    }

    int setClimate(int venue, int t, int h) {
        index(in(all.venues, venue));
        argument(within(t, -10, 40) && within(h, 20, 90));
        save();
        Venue v = all.venues.get(venue);
        int old = v.temperature * 1000 + v.humidity;
        v.temperature = t;
        v.humidity = h;
        return old;
    }

    int setWay(int a, int b, int hours) {
        index(in(all.venues, a) && in(all.venues, b));
        argument(a != b && within(hours, 0, 200));
        save();
        int old = way(a, b);
        // A way is kept once, at the lower one of its venues.
        all.venues.get(Math.min(a, b)).ways.put(Math.max(a, b), hours);
        return old;
    }

    private int way(int a, int b) {
        return all.venues.get(Math.min(a, b)).ways.getOrDefault(Math.max(a, b), 0);
    }

    int setLender(int lender, int what, int value) {
        argument(within(lender, 0, 5) && within(what, 0, 3));
        int[][] ranges = {{-10, 40}, {-10, 40}, {20, 90}, {0, 255}};
        argument(within(value, ranges[what][0], ranges[what][1]));
        save();
        int[] values = all.lenders.get(lender).values;
        int old = values[what];
        values[what] = value;
        return old;
    }

    int setWayRate(int rate) {
        argument(within(rate, 0, 5000));
        save();
        int old = all.wayRate;
        all.wayRate = rate;
        return old;
    }

    int addCourier(int venue) {
        index(in(all.venues, venue));
        state(all.couriers.size() != 4);
        save();
        Courier c = new Courier();
        c.at = all.venues.get(venue);
        all.couriers.add(c);
        return all.couriers.size() - 1;
    }

    int addCrate(int venue, int insulation) {
        index(in(all.venues, venue));
        argument(within(insulation, 1, 4));
        state(all.crates.size() != 12);
        save();
        Crate c = new Crate();
        c.insulation = insulation;
        c.at = all.venues.get(venue);
        all.crates.add(c);
        return all.crates.size() - 1;
    }

    int addWork(int venue, int lender, int value, int legs, boolean escorted) {
        index(in(all.venues, venue));
        argument(within(lender, 0, 5) && within(value, 1, 1_000_000) && within(legs, 0, 20));
        state(all.works.size() != 16);
        save();
        Work w = new Work();
        w.lender = lender;
        w.value = value;
        w.legs = legs;
        w.escorted = escorted;
        w.at = all.venues.get(venue);
        all.works.add(w);
        return all.works.size() - 1;
    }

    int open(int crate) {
        index(in(all.crates, crate));
        Crate c = all.crates.get(crate);
        state(!c.open);
        state(c.reachable());
        state(all.time >= c.since + c.needs(c.root().at));
        save();
        c = all.crates.get(crate);
        c.open = true;
        for (Crate inner : c.crates) {
            if (!inner.open) {
                inner.since = all.time;
            }
        }
        return c.works.size();
    }

    int close(int crate) {
        index(in(all.crates, crate));
        Crate c = all.crates.get(crate);
        state(c.open && c.reachable());
        for (Crate inner : c.crates) {
            state(!inner.open);
        }
        save();
        c.open = false;
        c.temperature = c.root().at.temperature;
        c.humidity = c.root().at.humidity;
        c.since = all.time;
        return c.allWorks().size();
    }

    int nest(int crate, int into) {
        index(in(all.crates, crate) && in(all.crates, into));
        state(crate != into);
        Crate c = all.crates.get(crate);
        Crate d = all.crates.get(into);
        state(!c.open && c.in == null && c.goal == null);
        state(d.open && d.reachable() && d.root().at == c.at);
        save();
        c.at = null;
        c.in = d;
        d.crates.add(c);
        return d.crates.size();
    }

    int takeOut(int crate) {
        index(in(all.crates, crate));
        Crate c = all.crates.get(crate);
        state(c.in != null && !c.open && c.reachable());
        save();
        Crate old = c.in;
        c.at = c.root().at;
        old.crates.remove(c);
        c.in = null;
        return all.crates.indexOf(old);
    }

    int pack(int work, int crate) {
        index(in(all.works, work) && in(all.crates, crate));
        Work w = all.works.get(work);
        Crate c = all.crates.get(crate);
        state(w.in == null && c.open && c.reachable() && c.root().at == w.at);
        save();
        w.in = c;
        w.at = null;
        c.works.add(w);
        return c.works.size();
    }

    int unpack(int work) {
        index(in(all.works, work));
        Work w = all.works.get(work);
        state(w.in != null && w.in.open && w.in.reachable());
        save();
        w.at = w.in.root().at;
        w.in.works.remove(w);
        w.in = null;
        return all.venues.indexOf(w.at);
    }

    int refusal(int crate, int to, int courier) {
        index(in(all.crates, crate) && in(all.venues, to)
                && (courier == NONE || in(all.couriers, courier)));
        Crate c = all.crates.get(crate);
        Venue v = all.venues.get(to);
        if (c.open) {
            return 1;
        }
        if (c.in != null) {
            return 2;
        }
        if (c.goal != null) {
            return 3;
        }
        if (c.at == v || way(all.venues.indexOf(c.at), to) == 0) {
            return 4;
        }
        List<Work> works = c.allWorks();
        for (Work w : works) {
            if (w.legs < 1) {
                return 5;
            }
        }
        for (Work w : works) {
            if ((all.lenders.get(w.lender).values[3] & 1 << to) != 0) {
                return 6;
            }
        }
        for (Work w : works) {
            int[] wish = all.lenders.get(w.lender).values;
            if (v.temperature < wish[0] || v.temperature > wish[1] || v.humidity > wish[2]) {
                return 7;
            }
        }
        long sum = 0;
        for (Work w : all.works) {
            boolean coming = w.in != null && w.in.root().goal == v;
            if (works.contains(w) || w.place() == v || coming) {
                sum += w.value;
            }
        }
        if (sum > v.cap) {
            return 8;
        }
        for (Work w : works) {
            if (w.escorted && courier == NONE) {
                return 9;
            }
        }
        return courier != NONE && all.couriers.get(courier).at != c.at ? 10 : 0;
    }

    int send(int crate, int to, int courier) {
        state(refusal(crate, to, courier) == 0);
        save();
        Crate c = all.crates.get(crate);
        c.arrival = all.time + way(all.venues.indexOf(c.at), to);
        c.goal = all.venues.get(to);
        c.at = null;
        if (courier != NONE) {
            c.courier = all.couriers.get(courier);
            c.courier.at = null;
        }
        return c.arrival;
    }

    int advance(int hours) {
        argument(within(hours, 1, 240));
        save();
        int count = 0;
        for (int end = all.time + hours; all.time < end; ) {
            all.time++;
            for (Crate c : all.crates) {
                if (c.goal != null && c.arrival == all.time) {
                    count++;
                    all.arrived++;
                    c.at = c.goal;
                    c.goal = null;
                    c.since = all.time;
                    for (Work w : c.allWorks()) {
                        w.legs -= 1;
                    }
                    if (c.courier != null) {
                        c.courier.at = c.at;
                        c.courier = null;
                    }
                }
            }
            if (all.time % 24 == 0) {
                for (Work w : all.works) {
                    Venue v = w.place();
                    long rate = v == null ? all.wayRate : v.rate;
                    int premium = (int) (w.value * rate / 10000);
                    w.places.add(0, v == null ? 8 : all.venues.indexOf(v));
                    w.paid += premium;
                    all.paid += premium;
                    if (v == null) {
                        all.wayPaid += premium;
                    } else {
                        v.paid += premium;
                    }
                }
            }
        }
        return count;
    }

    int crate(int crate, int what) {
        index(in(all.crates, crate));
        argument(within(what, 0, 13));
        Crate c = all.crates.get(crate);
        Crate r = c.root();
        int sum = 0;
        for (Work w : c.allWorks()) {
            sum += w.value;
        }
        return new int[] {
            c.insulation, c.open ? 1 : 0, all.crates.indexOf(c.in), all.venues.indexOf(r.at),
            all.venues.indexOf(r.goal), r.goal == null ? NONE : r.arrival,
            c.open ? r.at.temperature : c.temperature, c.open ? r.at.humidity : c.humidity,
            c.open ? NONE : c.since, c.open || r.at == null ? NONE : c.needs(r.at),
            c.allWorks().size(), c.below(), sum, c.reachable() ? 1 : 0}[what];
    }

    int work(int work, int what) {
        index(in(all.works, work));
        argument(within(what, 0, 7));
        Work w = all.works.get(work);
        int around = 0;
        for (Crate c = w.in; c != null; c = c.in) {
            around++;
        }
        return new int[] {w.lender, w.value, w.legs, w.escorted ? 1 : 0, all.crates.indexOf(w.in),
            all.venues.indexOf(w.place()), around, w.paid}[what];
    }

    int noted(int work, int back) {
        index(in(all.works, work));
        argument(back >= 0);
        List<Integer> places = all.works.get(work).places;
        return back < Math.min(10, places.size()) ? places.get(back) : NONE;
    }

    int venue(int venue, int what) {
        index(in(all.venues, venue));
        argument(within(what, 0, 8));
        Venue v = all.venues.get(venue);
        int there = 0;
        int coming = 0;
        for (Work w : all.works) {
            there += w.place() == v ? w.value : 0;
            coming += w.in != null && w.in.root().goal == v ? w.value : 0;
        }
        int crates = 0;
        for (Crate c : all.crates) {
            crates += c.in == null && c.at == v ? 1 : 0;
        }
        int couriers = 0;
        for (Courier k : all.couriers) {
            couriers += k.at == v ? 1 : 0;
        }
        return new int[] {v.temperature, v.humidity, v.rate, v.cap, there, coming, crates, couriers,
            v.paid}[what];
    }

    int courier(int courier) {
        index(in(all.couriers, courier));
        return all.venues.indexOf(all.couriers.get(courier).at);
    }

    int whole(int what) {
        argument(within(what, 0, 9));
        int onWay = 0;
        for (Work w : all.works) {
            onWay += w.place() == null ? 1 : 0;
        }
        int open = 0;
        for (Crate c : all.crates) {
            open += c.open ? 1 : 0;
        }
        return new int[] {all.time, all.venues.size(), all.crates.size(), all.works.size(),
            all.couriers.size(), all.paid, all.wayPaid, all.arrived, onWay, open}[what];
    }

    /** The time at which a crate, and all around it, could be open. */
    private int opened(Crate c) {
        Crate r = c.root();
        Venue v = r.goal == null ? r.at : r.goal;
        if (c.in == null) {
            int start = r.goal == null ? all.time : r.arrival;
            int since = r.goal == null ? c.since : r.arrival;
            return c.open ? start : Math.max(start, since + c.needs(v));
        }
        int start = opened(c.in);
        int since = c.in.open ? c.since : start;
        return c.open ? start : Math.max(start, since + c.needs(v));
    }

    int readyAt(int work) {
        index(in(all.works, work));
        Work w = all.works.get(work);
        return w.in == null ? all.time : opened(w.in);
    }

    int allReadyAt(int crate) {
        index(in(all.crates, crate));
        int latest = NONE;
        for (Work w : all.crates.get(crate).allWorks()) {
            latest = Math.max(latest, readyAt(all.works.indexOf(w)));
        }
        return latest;
    }

    /** Sends the crate for trial to each venue in turn and asks allReadyAt() behind that. */
    int bestVenue(int crate, int courier) {
        index(in(all.crates, crate) && (courier == NONE || in(all.couriers, courier)));
        int best = NONE;
        int soonest = Integer.MAX_VALUE;
        for (int v = 0; v < all.venues.size(); v++) {
            if (refusal(crate, v, courier) != 0) {
                continue;
            }
            All kept = all;
            all = thaw(freeze(kept));
            quiet = true;
            int arrival = send(crate, v, courier);
            int ready = allReadyAt(crate);
            quiet = false;
            all = kept;
            int key = ready == NONE ? arrival : ready;
            if (key < soonest) {
                soonest = key;
                best = v;
            }
        }
        return best;
    }

    int type(int value) {
        argument(within(value, 0, 127));
        state(text.length() < 150);
        text.append((char) value);
        return text.length();
    }

    int clearCommands() {
        int old = text.length();
        text.setLength(0);
        return old;
    }

    private static final String NUMBER = "(?: +[0-9]{1,4})";
    private static final String COMMAND = "(?: *(?:(?:open|close|out|unpack|wait)" + NUMBER
            + "|(?:nest|pack|send)" + NUMBER + "{2}|escort" + NUMBER + "{3}) *;)";
    private static final Pattern TEXT = Pattern.compile(COMMAND + "* *");
    private static final Pattern WORD =
            Pattern.compile("open|close|nest|out|pack|unpack|send|escort|wait");

    /** The fault of a text, by asking which of its beginnings can be gone on with. */
    static int fault(String text) {
        for (int end = 1; end <= text.length(); end++) {
            Matcher m = TEXT.matcher(text.substring(0, end));
            if (!m.matches() && !m.hitEnd()) {
                return wordStartOr(text, end - 1);
            }
        }
        return TEXT.matcher(text).matches() ? NONE : wordStartOr(text, text.length());
    }

    /** A wrong word around an index is at fault with its first byte. */
    private static int wordStartOr(String text, int at) {
        int start = at;
        while (start > 0 && isLetter(text.charAt(start - 1))) {
            start--;
        }
        int end = at;
        while (end < text.length() && isLetter(text.charAt(end))) {
            end++;
        }
        return WORD.matcher(text.substring(start, end)).matches() ? at : start;
    }

    private static boolean isLetter(char c) {
        return 'a' <= c && c <= 'z';
    }

    int runCommands() {
        int fault = fault(text.toString());
        if (fault != NONE) {
            return -10 - fault;
        }
        save();
        quiet = true;
        int done = 0;
        for (String command : text.toString().split(";")) {
            String[] parts = command.trim().split(" +");
            if (parts[0].isEmpty()) {
                break;
            }
            try {
                carryOut(parts);
            } catch (RuntimeException e) {
                break;
            }
            done++;
        }
        quiet = false;
        return done;
    }

    private void carryOut(String[] parts) {
        int[] n = new int[3];
        for (int i = 1; i < parts.length; i++) {
            n[i - 1] = Integer.parseInt(parts[i]);
        }
        switch (parts[0]) {
            case "open" -> open(n[0]);
            case "close" -> close(n[0]);
            case "nest" -> nest(n[0], n[1]);
            case "out" -> takeOut(n[0]);
            case "pack" -> pack(n[0], n[1]);
            case "unpack" -> unpack(n[0]);
            case "send" -> send(n[0], n[1], NONE);
            case "escort" -> send(n[0], n[1], n[2]);
            case "wait" -> advance(n[0]);
            default -> throw new AssertionError(parts[0]);
        }
    }

    int undo() {
        state(!undo.isEmpty());
        all = thaw(undo.remove(undo.size() - 1));
        return undo.size();
    }

    long digest() {
        List<Integer> values = new ArrayList<>(List.of(undo.size(), text.length()));
        for (int i = 0; i < 10; i++) {
            values.add(whole(i));
        }
        for (int v = 0; v < all.venues.size(); v++) {
            for (int i = 0; i < 9; i++) {
                values.add(venue(v, i));
            }
        }
        for (int c = 0; c < all.crates.size(); c++) {
            for (int i = 0; i < 14; i++) {
                values.add(crate(c, i));
            }
            values.add(allReadyAt(c));
        }
        for (int w = 0; w < all.works.size(); w++) {
            for (int i = 0; i < 8; i++) {
                values.add(work(w, i));
            }
            for (int i = 0; i < 10; i++) {
                values.add(noted(w, i));
            }
            values.add(readyAt(w));
        }
        for (int k = 0; k < all.couriers.size(); k++) {
            values.add(courier(k));
        }
        long h = 43003;
        for (int v : values) {
            h = 31 * h + v;
        }
        return h;
    }
}
