/**
 * The tour of an exhibition: venues, crates within crates, works, couriers, legs, insurance,
 * forecasts and texts of commands. What each call does is said in the project's document.
 */
public final class CrateTour {
    public static final int NONE = -1;

    private static final int MAX_VENUES = 8;
    private static final int MAX_COURIERS = 4;
    private static final int MAX_CRATES = 12;
    private static final int MAX_WORKS = 16;
    private static final int MAX_TEXT = 150;
    private static final int LENDERS = 6;
    private static final int KEPT_PLACES = 10;
    private static final int KEPT_STATES = 4;
    private static final int HOURS_OF_A_DAY = 24;
    private static final int PLACE_ON_THE_WAY = 8;
    private static final int PREMIUM_DIVISOR = 10000;
    private static final long DIGEST_START = 43003;

    private static final int MIN_TEMPERATURE = -10;
    private static final int MAX_TEMPERATURE = 40;
    private static final int MIN_HUMIDITY = 20;
    private static final int MAX_HUMIDITY = 90;
    private static final int MAX_VENUE_RATE = 500;
    private static final int MAX_CAP = 10000000;
    private static final int MAX_WAY = 200;
    private static final int MAX_WAY_RATE = 5000;
    private static final int FIRST_WAY_RATE = 100;
    private static final int MAX_INSULATION = 4;
    private static final int MAX_VALUE = 1000000;
    private static final int MAX_LEGS = 20;
    private static final int MAX_ADVANCE = 240;
    private static final int MAX_BYTE = 127;

    // How many values each of the calls crate, work, venue, whole and setLender knows.
    private static final int CRATE_VALUES = 14;
    private static final int WORK_VALUES = 8;
    private static final int VENUE_VALUES = 9;
    private static final int WHOLE_VALUES = 10;
    private static final int LENDER_VALUES = 4;

    // The values of a lender, numbered as setLender does.
    private static final int LEAST_TEMPERATURE = 0;
    private static final int GREATEST_TEMPERATURE = 1;
    private static final int GREATEST_HUMIDITY = 2;
    private static final int BARRED_VENUES = 3;
    private static final int ALL_VENUES_BARRED = 255;

    // What is wrong with a call, if anything is; each but the first stands for an exception.
    private static final int FINE = 0;
    private static final int NO_SUCH = 1;
    private static final int OUT_OF_RANGE = 2;
    private static final int NOT_NOW = 3;

    // The reasons for which a crate may not be sent.
    private static final int MAY_BE_SENT = 0;
    private static final int IS_OPEN = 1;
    private static final int IS_IN_A_CRATE = 2;
    private static final int IS_ON_ITS_WAY = 3;
    private static final int NO_WAY = 4;
    private static final int NO_LEGS_LEFT = 5;
    private static final int VENUE_BARRED = 6;
    private static final int CLIMATE_UNSUITED = 7;
    private static final int ABOVE_CAP = 8;
    private static final int COURIER_NEEDED = 9;
    private static final int COURIER_ELSEWHERE = 10;

    private static final Word[] WORDS = Word.values();

    private final State state;
    private final Checks checks;
    private final Deeds deeds;
    private final Values values;
    private final Forecast forecast;
    private final UndoStack saved;
    private final CommandText commands;

    public CrateTour() {
        state = new State();
        checks = new Checks(state);
        deeds = new Deeds(state);
        values = new Values(state);
        forecast = new Forecast(state, checks);
        saved = new UndoStack();
        commands = new CommandText();
    }

    // ---- what there is

    public int addVenue(int temperature, int humidity, int rate, int cap)
            throws IllegalArgumentException, IllegalStateException {
        throwIfWrong(checks.ofNewVenue(temperature, humidity, rate, cap));
        saved.keep(state);
        return deeds.makeVenue(temperature, humidity, rate, cap);
    }

    public int setClimate(int venue, int temperature, int humidity)
            throws IndexOutOfBoundsException, IllegalArgumentException {
        throwIfWrong(checks.ofClimate(venue, temperature, humidity));
        saved.keep(state);
        return deeds.changeClimate(venue, temperature, humidity);
    }

    public int setWay(int a, int b, int hours)
            throws IndexOutOfBoundsException, IllegalArgumentException {
        throwIfWrong(checks.ofWay(a, b, hours));
        saved.keep(state);
        return deeds.changeWay(a, b, hours);
    }

    public int setLender(int lender, int what, int value) throws IllegalArgumentException {
        throwIfWrong(checks.ofLenderValue(lender, what, value));
        saved.keep(state);
        return deeds.changeLender(lender, what, value);
    }

    public int setWayRate(int rate) throws IllegalArgumentException {
        throwIfWrong(checks.ofWayRate(rate));
        saved.keep(state);
        return deeds.changeWayRate(rate);
    }

    public int addCourier(int venue) throws IndexOutOfBoundsException, IllegalStateException {
        throwIfWrong(checks.ofNewCourier(venue));
        saved.keep(state);
        return deeds.makeCourier(venue);
    }

    public int addCrate(int venue, int insulation)
            throws IndexOutOfBoundsException, IllegalArgumentException, IllegalStateException {
        throwIfWrong(checks.ofNewCrate(venue, insulation));
        saved.keep(state);
        return deeds.makeCrate(venue, insulation);
    }

    public int addWork(int venue, int lender, int value, int legs, boolean escorted)
            throws IndexOutOfBoundsException, IllegalArgumentException, IllegalStateException {
        throwIfWrong(checks.ofNewWork(venue, lender, value, legs));
        saved.keep(state);
        return deeds.makeWork(venue, lender, value, legs, escorted);
    }

    // ---- what is done

    public int open(int crate) throws IndexOutOfBoundsException, IllegalStateException {
        throwIfWrong(checks.ofOpening(crate));
        saved.keep(state);
        return deeds.openCrate(crate);
    }

    public int close(int crate) throws IndexOutOfBoundsException, IllegalStateException {
        throwIfWrong(checks.ofClosing(crate));
        saved.keep(state);
        return deeds.closeCrate(crate);
    }

    public int nest(int crate, int into) throws IndexOutOfBoundsException, IllegalStateException {
        throwIfWrong(checks.ofNesting(crate, into));
        saved.keep(state);
        return deeds.putCrateInto(crate, into);
    }

    public int takeOut(int crate) throws IndexOutOfBoundsException, IllegalStateException {
        throwIfWrong(checks.ofTakingOut(crate));
        saved.keep(state);
        return deeds.takeCrateOut(crate);
    }

    public int pack(int work, int crate) throws IndexOutOfBoundsException, IllegalStateException {
        throwIfWrong(checks.ofPacking(work, crate));
        saved.keep(state);
        return deeds.packWork(work, crate);
    }

    public int unpack(int work) throws IndexOutOfBoundsException, IllegalStateException {
        throwIfWrong(checks.ofUnpacking(work));
        saved.keep(state);
        return deeds.unpackWork(work);
    }

    public int send(int crate, int to, int courier)
            throws IndexOutOfBoundsException, IllegalStateException {
        throwIfWrong(checks.ofSending(crate, to, courier));
        saved.keep(state);
        return deeds.sendCrate(crate, to, courier);
    }

    public int advance(int hours) throws IllegalArgumentException {
        throwIfWrong(checks.ofWaiting(hours));
        saved.keep(state);
        return deeds.letHoursPass(hours);
    }

    // ---- values

    public int refusal(int crate, int to, int courier) throws IndexOutOfBoundsException {
        throwIfWrong(checks.ofLeg(crate, to, courier));
        return checks.reasonAgainst(crate, to, courier);
    }

    public int crate(int crate, int what)
            throws IndexOutOfBoundsException, IllegalArgumentException {
        throwIfWrong(checks.ofValue(state.hasCrate(crate), what, CRATE_VALUES));
        return values.ofCrate(crate, what);
    }

    public int work(int work, int what) throws IndexOutOfBoundsException, IllegalArgumentException {
        throwIfWrong(checks.ofValue(state.hasWork(work), what, WORK_VALUES));
        return values.ofWork(work, what);
    }

    public int noted(int work, int back)
            throws IndexOutOfBoundsException, IllegalArgumentException {
        throwIfWrong(checks.ofNoted(work, back));
        return state.works[work].placeNoted(back);
    }

    public int venue(int venue, int what)
            throws IndexOutOfBoundsException, IllegalArgumentException {
        throwIfWrong(checks.ofValue(state.hasVenue(venue), what, VENUE_VALUES));
        return values.ofVenue(venue, what);
    }

    public int courier(int courier) throws IndexOutOfBoundsException {
        throwIfWrong(checks.ofNumber(state.hasCourier(courier)));
        return state.couriers[courier];
    }

    public int whole(int what) throws IllegalArgumentException {
        throwIfWrong(checks.ofValue(true, what, WHOLE_VALUES));
        return values.ofWhole(what);
    }

    // ---- forecasts, which change nothing

    public int readyAt(int work) throws IndexOutOfBoundsException {
        throwIfWrong(checks.ofNumber(state.hasWork(work)));
        return forecast.timeOfWork(work);
    }

    public int allReadyAt(int crate) throws IndexOutOfBoundsException {
        throwIfWrong(checks.ofNumber(state.hasCrate(crate)));
        return forecast.timeOfCrate(crate);
    }

    public int bestVenue(int crate, int courier) throws IndexOutOfBoundsException {
        throwIfWrong(checks.ofNumber(state.hasCrate(crate) && state.isCourierOrNone(courier)));
        return forecast.soonestVenue(crate, courier);
    }

    // ---- command text, undo and checksum

    public int type(int value) throws IllegalArgumentException, IllegalStateException {
        throwIfWrong(checks.ofByte(value, commands.length));
        return commands.append(value);
    }

    public int clearCommands() {
        return commands.empty();
    }

    public int runCommands() {
        int fault = commands.findFault();
        if (fault != NONE) {
            return -10 - fault;
        }
        saved.keep(state);
        int done = 0;
        commands.rewind();
        while (done < MAX_TEXT && commands.readNext()
                && wrongWith(commands.word, commands.numbers) == FINE) {
            perform(commands.word, commands.numbers);
            done++;
        }
        return done;
    }

    public int undo() throws IllegalStateException {
        throwIfWrong(saved.count > 0 ? FINE : NOT_NOW);
        return saved.restore(state);
    }

    public long digest() {
        long hash = mixed(DIGEST_START, saved.count);
        hash = mixed(hash, commands.length);
        for (int what = 0; what < WHOLE_VALUES; what++) {
            hash = mixed(hash, values.ofWhole(what));
        }
        hash = withVenues(hash);
        hash = withCrates(hash);
        hash = withWorks(hash);
        for (int courier = 0; courier < state.courierCount; courier++) {
            hash = mixed(hash, state.couriers[courier]);
        }
        return hash;
    }

    private long withVenues(long start) {
        long hash = start;
        for (int venue = 0; venue < state.venueCount; venue++) {
            for (int what = 0; what < VENUE_VALUES; what++) {
                hash = mixed(hash, values.ofVenue(venue, what));
            }
        }
        return hash;
    }

    private long withCrates(long start) {
        long hash = start;
        for (int crate = 0; crate < state.crateCount; crate++) {
            for (int what = 0; what < CRATE_VALUES; what++) {
                hash = mixed(hash, values.ofCrate(crate, what));
            }
            hash = mixed(hash, forecast.timeOfCrate(crate));
        }
        return hash;
    }

    private long withWorks(long start) {
        long hash = start;
        for (int work = 0; work < state.workCount; work++) {
            for (int what = 0; what < WORK_VALUES; what++) {
                hash = mixed(hash, values.ofWork(work, what));
            }
            for (int back = 0; back < KEPT_PLACES; back++) {
                hash = mixed(hash, state.works[work].placeNoted(back));
            }
            hash = mixed(hash, forecast.timeOfWork(work));
        }
        return hash;
    }

    private static long mixed(long hash, long value) {
        return 31 * hash + value;
    }

    private static void throwIfWrong(int wrong) {
        if (wrong == NO_SUCH) {
            throw new IndexOutOfBoundsException("there is nothing with this number");
        }
        if (wrong == OUT_OF_RANGE) {
            throw new IllegalArgumentException("an argument is out of its range");
        }
        if (wrong == NOT_NOW) {
            throw new IllegalStateException("this cannot be done as things stand");
        }
    }

    private int wrongWith(Word word, int[] numbers) {
        switch (word) {
            case OPEN:
                return checks.ofOpening(numbers[0]);
            case CLOSE:
                return checks.ofClosing(numbers[0]);
            case NEST:
                return checks.ofNesting(numbers[0], numbers[1]);
            case OUT:
                return checks.ofTakingOut(numbers[0]);
            case PACK:
                return checks.ofPacking(numbers[0], numbers[1]);
            case UNPACK:
                return checks.ofUnpacking(numbers[0]);
            case SEND:
                return checks.ofSending(numbers[0], numbers[1], NONE);
            case ESCORT:
                return checks.ofSending(numbers[0], numbers[1], numbers[2]);
            default:
                return checks.ofWaiting(numbers[0]);
        }
    }

    private int perform(Word word, int[] numbers) {
        switch (word) {
            case OPEN:
                return deeds.openCrate(numbers[0]);
            case CLOSE:
                return deeds.closeCrate(numbers[0]);
            case NEST:
                return deeds.putCrateInto(numbers[0], numbers[1]);
            case OUT:
                return deeds.takeCrateOut(numbers[0]);
            case PACK:
                return deeds.packWork(numbers[0], numbers[1]);
            case UNPACK:
                return deeds.unpackWork(numbers[0]);
            case SEND:
                return deeds.sendCrate(numbers[0], numbers[1], NONE);
            case ESCORT:
                return deeds.sendCrate(numbers[0], numbers[1], numbers[2]);
            default:
                return deeds.letHoursPass(numbers[0]);
        }
    }

    private static final class Venue {
        int temperature;
        int humidity;
        int rate;
        int cap;
        int paid;
        /** The hours of the way to each venue, 0 where there is none. */
        final int[] hoursTo = new int[MAX_VENUES];

        void copyFrom(Venue other) {
            temperature = other.temperature;
            humidity = other.humidity;
            rate = other.rate;
            cap = other.cap;
            paid = other.paid;
            System.arraycopy(other.hoursTo, 0, hoursTo, 0, MAX_VENUES);
        }
    }

    private static final class Crate {
        int insulation;
        boolean isOpen;
        /** The crate in which this one is, or NONE. */
        int holder;
        /** The venue at which it is; NONE in another crate or on its way. */
        int venue;
        /** The venue to which it is on its way itself, or NONE. */
        int goal;
        int arrival;
        /** The courier who goes along on this way, or NONE. */
        int companion;
        int temperature;
        int humidity;
        int waitsSince;

        void copyFrom(Crate other) {
            insulation = other.insulation;
            isOpen = other.isOpen;
            holder = other.holder;
            venue = other.venue;
            goal = other.goal;
            arrival = other.arrival;
            companion = other.companion;
            temperature = other.temperature;
            humidity = other.humidity;
            waitsSince = other.waitsSince;
        }

        void standAt(int place) {
            holder = NONE;
            venue = place;
            goal = NONE;
            arrival = NONE;
            companion = NONE;
        }

        int hoursNeededAt(Venue place) {
            int degrees = Math.abs(temperature - place.temperature);
            int moisture = Math.abs(humidity - place.humidity);
            return insulation * (4 * degrees + moisture) / 10;
        }
    }

    private static final class Work {
        int lender;
        int value;
        int legs;
        boolean escorted;
        /** The crate in which it is directly, or NONE. */
        int crate;
        /** The venue at which it is; NONE in a crate. */
        int venue;
        int paid;
        int placesKept;
        /** The places noted, the latest one first. */
        final int[] places = new int[KEPT_PLACES];

        void copyFrom(Work other) {
            lender = other.lender;
            value = other.value;
            legs = other.legs;
            escorted = other.escorted;
            crate = other.crate;
            venue = other.venue;
            paid = other.paid;
            placesKept = other.placesKept;
            System.arraycopy(other.places, 0, places, 0, KEPT_PLACES);
        }

        void notePlace(int place) {
            System.arraycopy(places, 0, places, 1, KEPT_PLACES - 1);
            places[0] = place;
            placesKept = Math.min(placesKept + 1, KEPT_PLACES);
        }

        int placeNoted(int back) {
            return back >= 0 && back < placesKept ? places[back] : NONE;
        }
    }

    /** All that undo brings back, and where things are in it. */
    private static final class State {
        int time;
        int wayRate = FIRST_WAY_RATE;
        int paid;
        int paidForWays;
        int arrived;
        int venueCount;
        int crateCount;
        int workCount;
        int courierCount;
        final Venue[] venues = new Venue[MAX_VENUES];
        final Crate[] crates = new Crate[MAX_CRATES];
        final Work[] works = new Work[MAX_WORKS];
        /** The venue of each courier, NONE on the way. */
        final int[] couriers = new int[MAX_COURIERS];
        final int[][] lenders = new int[LENDERS][LENDER_VALUES];

        State() {
            for (int i = 0; i < MAX_VENUES; i++) {
                venues[i] = new Venue();
            }
            for (int i = 0; i < MAX_CRATES; i++) {
                crates[i] = new Crate();
            }
            for (int i = 0; i < MAX_WORKS; i++) {
                works[i] = new Work();
            }
            for (int i = 0; i < LENDERS; i++) {
                lenders[i][LEAST_TEMPERATURE] = MIN_TEMPERATURE;
                lenders[i][GREATEST_TEMPERATURE] = MAX_TEMPERATURE;
                lenders[i][GREATEST_HUMIDITY] = MAX_HUMIDITY;
            }
        }

        void copyFrom(State other) {
            time = other.time;
            wayRate = other.wayRate;
            paid = other.paid;
            paidForWays = other.paidForWays;
            arrived = other.arrived;
            venueCount = other.venueCount;
            crateCount = other.crateCount;
            workCount = other.workCount;
            courierCount = other.courierCount;
            for (int i = 0; i < MAX_VENUES; i++) {
                venues[i].copyFrom(other.venues[i]);
            }
            for (int i = 0; i < MAX_CRATES; i++) {
                crates[i].copyFrom(other.crates[i]);
            }
            for (int i = 0; i < MAX_WORKS; i++) {
                works[i].copyFrom(other.works[i]);
            }
            System.arraycopy(other.couriers, 0, couriers, 0, MAX_COURIERS);
            for (int i = 0; i < LENDERS; i++) {
                System.arraycopy(other.lenders[i], 0, lenders[i], 0, LENDER_VALUES);
            }
        }

        boolean hasVenue(int venue) {
            return venue >= 0 && venue < venueCount;
        }

        boolean hasCrate(int crate) {
            return crate >= 0 && crate < crateCount;
        }

        boolean hasWork(int work) {
            return work >= 0 && work < workCount;
        }

        boolean hasCourier(int courier) {
            return courier >= 0 && courier < courierCount;
        }

        boolean isCourierOrNone(int courier) {
            return courier == NONE || hasCourier(courier);
        }

        int hoursBetween(int a, int b) {
            return hasVenue(a) && hasVenue(b) ? venues[a].hoursTo[b] : 0;
        }

        /** The outermost crate around a crate, or the crate itself. */
        int outermost(int crate) {
            int outer = crate;
            for (int level = 0; level < MAX_CRATES; level++) {
                int holder = crates[outer].holder;
                if (holder < 0 || holder >= crateCount) {
                    return outer;
                }
                outer = holder;
            }
            return outer;
        }

        /** Whether a crate (or NONE) is a certain one or below it. */
        boolean isInOrBelow(int crate, int top) {
            int inner = crate;
            for (int level = 0; level < MAX_CRATES && hasCrate(inner); level++) {
                if (inner == top) {
                    return true;
                }
                inner = crates[inner].holder;
            }
            return false;
        }

        boolean isWithinReach(int crate) {
            int inner = crate;
            for (int level = 0; level < MAX_CRATES; level++) {
                int holder = crates[inner].holder;
                if (!hasCrate(holder)) {
                    return hasVenue(crates[inner].venue);
                }
                if (!crates[holder].isOpen) {
                    return false;
                }
                inner = holder;
            }
            return false;
        }

        /** How many crates there are from a crate (or NONE) outwards. */
        int cratesOutwards(int crate) {
            int count = 0;
            int inner = crate;
            while (count < MAX_CRATES && hasCrate(inner)) {
                inner = crates[inner].holder;
                count++;
            }
            return count;
        }

        int venueOfCrate(int crate) {
            return crates[outermost(crate)].venue;
        }

        int venueOfWork(int work) {
            int crate = works[work].crate;
            return hasCrate(crate) ? crates[outermost(crate)].venue : works[work].venue;
        }

        int goalOfWork(int work) {
            int crate = works[work].crate;
            return hasCrate(crate) ? crates[outermost(crate)].goal : NONE;
        }

        int worksDirectlyIn(int crate) {
            int count = 0;
            for (int i = 0; i < workCount; i++) {
                if (works[i].crate == crate) {
                    count++;
                }
            }
            return count;
        }

        int cratesDirectlyIn(int crate) {
            int count = 0;
            for (int i = 0; i < crateCount; i++) {
                if (crates[i].holder == crate) {
                    count++;
                }
            }
            return count;
        }

        int worksInOrBelow(int crate) {
            int count = 0;
            for (int i = 0; i < workCount; i++) {
                if (isInOrBelow(works[i].crate, crate)) {
                    count++;
                }
            }
            return count;
        }

        int cratesBelow(int crate) {
            int count = 0;
            for (int i = 0; i < crateCount; i++) {
                if (isInOrBelow(crates[i].holder, crate)) {
                    count++;
                }
            }
            return count;
        }

        int valueInOrBelow(int crate) {
            int sum = 0;
            for (int i = 0; i < workCount; i++) {
                if (isInOrBelow(works[i].crate, crate)) {
                    sum += works[i].value;
                }
            }
            return sum;
        }

        int valueAt(int venue) {
            int sum = 0;
            for (int i = 0; i < workCount; i++) {
                if (venueOfWork(i) == venue) {
                    sum += works[i].value;
                }
            }
            return sum;
        }

        int valueOnTheWayTo(int venue) {
            int sum = 0;
            for (int i = 0; i < workCount; i++) {
                if (goalOfWork(i) == venue) {
                    sum += works[i].value;
                }
            }
            return sum;
        }
    }

    /** Tells what is wrong with a call: FINE, or what the first exception that applies stands for. */
    private static final class Checks {
        private final State state;

        Checks(State state) {
            this.state = state;
        }

        int ofNewVenue(int temperature, int humidity, int rate, int cap) {
            boolean inRange = isClimate(temperature, humidity)
                    && isIn(rate, 0, MAX_VENUE_RATE) && isIn(cap, 0, MAX_CAP);
            return firstWrong(true, inRange, state.venueCount < MAX_VENUES);
        }

        int ofClimate(int venue, int temperature, int humidity) {
            return firstWrong(state.hasVenue(venue), isClimate(temperature, humidity), true);
        }

        int ofWay(int a, int b, int hours) {
            boolean exist = state.hasVenue(a) && state.hasVenue(b);
            return firstWrong(exist, a != b && isIn(hours, 0, MAX_WAY), true);
        }

        int ofLenderValue(int lender, int what, int value) {
            boolean inRange = isIn(lender, 0, LENDERS - 1) && isLenderValue(what, value);
            return firstWrong(true, inRange, true);
        }

        int ofWayRate(int rate) {
            return firstWrong(true, isIn(rate, 0, MAX_WAY_RATE), true);
        }

        int ofNewCourier(int venue) {
            return firstWrong(state.hasVenue(venue), true, state.courierCount < MAX_COURIERS);
        }

        int ofNewCrate(int venue, int insulation) {
            return firstWrong(state.hasVenue(venue), isIn(insulation, 1, MAX_INSULATION),
                    state.crateCount < MAX_CRATES);
        }

        int ofNewWork(int venue, int lender, int value, int legs) {
            boolean inRange = isIn(lender, 0, LENDERS - 1) && isIn(value, 1, MAX_VALUE)
                    && isIn(legs, 0, MAX_LEGS);
            return firstWrong(state.hasVenue(venue), inRange, state.workCount < MAX_WORKS);
        }

        int ofOpening(int crate) {
            boolean exists = state.hasCrate(crate);
            return firstWrong(exists, true, exists && mayBeOpened(crate));
        }

        int ofClosing(int crate) {
            boolean exists = state.hasCrate(crate);
            boolean possible = exists && state.crates[crate].isOpen
                    && state.isWithinReach(crate) && !holdsOpenCrate(crate);
            return firstWrong(exists, true, possible);
        }

        int ofNesting(int crate, int into) {
            boolean exist = state.hasCrate(crate) && state.hasCrate(into);
            return firstWrong(exist, true, exist && crate != into && mayBeNested(crate, into));
        }

        int ofTakingOut(int crate) {
            boolean exists = state.hasCrate(crate);
            boolean possible = exists && state.crates[crate].holder != NONE
                    && !state.crates[crate].isOpen && state.isWithinReach(crate);
            return firstWrong(exists, true, possible);
        }

        int ofPacking(int work, int crate) {
            boolean exist = state.hasWork(work) && state.hasCrate(crate);
            boolean possible = exist && state.works[work].crate == NONE
                    && state.crates[crate].isOpen && state.isWithinReach(crate)
                    && state.venueOfCrate(crate) == state.works[work].venue;
            return firstWrong(exist, true, possible);
        }

        int ofUnpacking(int work) {
            boolean exists = state.hasWork(work);
            int crate = exists ? state.works[work].crate : NONE;
            boolean possible = state.hasCrate(crate) && state.crates[crate].isOpen
                    && state.isWithinReach(crate);
            return firstWrong(exists, true, possible);
        }

        int ofLeg(int crate, int to, int courier) {
            return ofNumber(state.hasCrate(crate) && state.hasVenue(to)
                    && state.isCourierOrNone(courier));
        }

        int ofSending(int crate, int to, int courier) {
            if (ofLeg(crate, to, courier) != FINE) {
                return NO_SUCH;
            }
            return reasonAgainst(crate, to, courier) == MAY_BE_SENT ? FINE : NOT_NOW;
        }

        int ofWaiting(int hours) {
            return firstWrong(true, isIn(hours, 1, MAX_ADVANCE), true);
        }

        int ofNumber(boolean exists) {
            return exists ? FINE : NO_SUCH;
        }

        int ofValue(boolean exists, int what, int count) {
            return firstWrong(exists, what >= 0 && what < count, true);
        }

        int ofNoted(int work, int back) {
            return firstWrong(state.hasWork(work), back >= 0, true);
        }

        int ofByte(int value, int length) {
            return firstWrong(true, isIn(value, 0, MAX_BYTE), length < MAX_TEXT);
        }

        /** The reason for which a crate may not be sent, of several the first one. */
        int reasonAgainst(int crate, int to, int courier) {
            int reason = reasonOfCrate(crate, to);
            if (reason == MAY_BE_SENT) {
                reason = reasonOfWorks(crate, to);
            }
            if (reason == MAY_BE_SENT && isAboveCap(crate, to)) {
                reason = ABOVE_CAP;
            }
            if (reason == MAY_BE_SENT) {
                reason = reasonOfCourier(crate, courier);
            }
            return reason;
        }

        private int reasonOfCrate(int crate, int to) {
            Crate sent = state.crates[crate];
            if (sent.isOpen) {
                return IS_OPEN;
            }
            if (sent.holder != NONE) {
                return IS_IN_A_CRATE;
            }
            if (sent.goal != NONE) {
                return IS_ON_ITS_WAY;
            }
            return state.hoursBetween(sent.venue, to) == 0 ? NO_WAY : MAY_BE_SENT;
        }

        private int reasonOfWorks(int crate, int to) {
            boolean outOfLegs = false;
            boolean barred = false;
            boolean unsuited = false;
            for (int i = 0; i < state.workCount; i++) {
                Work work = state.works[i];
                if (state.isInOrBelow(work.crate, crate)) {
                    outOfLegs = outOfLegs || work.legs == 0;
                    barred = barred || bars(state.lenders[work.lender], to);
                    unsuited = unsuited || !suits(state.lenders[work.lender], state.venues[to]);
                }
            }
            if (outOfLegs) {
                return NO_LEGS_LEFT;
            }
            if (barred) {
                return VENUE_BARRED;
            }
            return unsuited ? CLIMATE_UNSUITED : MAY_BE_SENT;
        }

        private boolean isAboveCap(int crate, int to) {
            // The crate is at another venue by now, so none of its works is counted twice.
            int sum = state.valueInOrBelow(crate) + state.valueAt(to) + state.valueOnTheWayTo(to);
            return sum > state.venues[to].cap;
        }

        private int reasonOfCourier(int crate, int courier) {
            if (!state.hasCourier(courier)) {
                return needsCourier(crate) ? COURIER_NEEDED : MAY_BE_SENT;
            }
            boolean isThere = state.couriers[courier] == state.crates[crate].venue;
            return isThere ? MAY_BE_SENT : COURIER_ELSEWHERE;
        }

        private boolean needsCourier(int crate) {
            for (int i = 0; i < state.workCount; i++) {
                if (state.works[i].escorted && state.isInOrBelow(state.works[i].crate, crate)) {
                    return true;
                }
            }
            return false;
        }

        private static boolean bars(int[] lender, int venue) {
            return ((lender[BARRED_VENUES] >> venue) & 1) == 1;
        }

        private static boolean suits(int[] lender, Venue venue) {
            return venue.temperature >= lender[LEAST_TEMPERATURE]
                    && venue.temperature <= lender[GREATEST_TEMPERATURE]
                    && venue.humidity <= lender[GREATEST_HUMIDITY];
        }

        private boolean mayBeOpened(int crate) {
            Crate closed = state.crates[crate];
            if (closed.isOpen || !state.isWithinReach(crate)) {
                return false;
            }
            int venue = state.venueOfCrate(crate);
            return state.hasVenue(venue)
                    && state.time >= closed.waitsSince + closed.hoursNeededAt(state.venues[venue]);
        }

        private boolean holdsOpenCrate(int crate) {
            for (int i = 0; i < state.crateCount; i++) {
                if (state.crates[i].holder == crate && state.crates[i].isOpen) {
                    return true;
                }
            }
            return false;
        }

        private boolean mayBeNested(int crate, int into) {
            Crate nested = state.crates[crate];
            return !nested.isOpen && nested.holder == NONE && nested.goal == NONE
                    && state.crates[into].isOpen && state.isWithinReach(into)
                    && state.venueOfCrate(into) == nested.venue;
        }

        private static int firstWrong(boolean exists, boolean inRange, boolean possible) {
            if (!exists) {
                return NO_SUCH;
            }
            if (!inRange) {
                return OUT_OF_RANGE;
            }
            return possible ? FINE : NOT_NOW;
        }

        private static boolean isIn(int value, int least, int greatest) {
            return value >= least && value <= greatest;
        }

        private static boolean isClimate(int temperature, int humidity) {
            return isIn(temperature, MIN_TEMPERATURE, MAX_TEMPERATURE)
                    && isIn(humidity, MIN_HUMIDITY, MAX_HUMIDITY);
        }

        private static boolean isLenderValue(int what, int value) {
            switch (what) {
                case LEAST_TEMPERATURE:
                case GREATEST_TEMPERATURE:
                    return isIn(value, MIN_TEMPERATURE, MAX_TEMPERATURE);
                case GREATEST_HUMIDITY:
                    return isIn(value, MIN_HUMIDITY, MAX_HUMIDITY);
                case BARRED_VENUES:
                    return isIn(value, 0, ALL_VENUES_BARRED);
                default:
                    return false;
            }
        }
    }

    /**
     * Changes the state. Each method is called only where the check of the same call says FINE. A row
     * that is not used yet is as it was made, for undo brings back whole states.
     */
    private static final class Deeds {
        private final State state;

        Deeds(State state) {
            this.state = state;
        }

        int makeVenue(int temperature, int humidity, int rate, int cap) {
            int number = state.venueCount;
            Venue venue = state.venues[number];
            venue.temperature = temperature;
            venue.humidity = humidity;
            venue.rate = rate;
            venue.cap = cap;
            state.venueCount++;
            return number;
        }

        int changeClimate(int venue, int temperature, int humidity) {
            Venue place = state.venues[venue];
            int previous = 1000 * place.temperature + place.humidity;
            place.temperature = temperature;
            place.humidity = humidity;
            return previous;
        }

        int changeWay(int a, int b, int hours) {
            int previous = state.venues[a].hoursTo[b];
            state.venues[a].hoursTo[b] = hours;
            state.venues[b].hoursTo[a] = hours;
            return previous;
        }

        int changeLender(int lender, int what, int value) {
            int previous = state.lenders[lender][what];
            state.lenders[lender][what] = value;
            return previous;
        }

        int changeWayRate(int rate) {
            int previous = state.wayRate;
            state.wayRate = rate;
            return previous;
        }

        int makeCourier(int venue) {
            int number = state.courierCount;
            state.couriers[number] = venue;
            state.courierCount++;
            return number;
        }

        int makeCrate(int venue, int insulation) {
            int number = state.crateCount;
            Crate crate = state.crates[number];
            crate.insulation = insulation;
            crate.isOpen = true;
            crate.standAt(venue);
            state.crateCount++;
            return number;
        }

        int makeWork(int venue, int lender, int value, int legs, boolean escorted) {
            int number = state.workCount;
            Work work = state.works[number];
            work.lender = lender;
            work.value = value;
            work.legs = legs;
            work.escorted = escorted;
            work.crate = NONE;
            work.venue = venue;
            state.workCount++;
            return number;
        }

        int openCrate(int crate) {
            state.crates[crate].isOpen = true;
            for (int i = 0; i < state.crateCount; i++) {
                Crate inner = state.crates[i];
                if (inner.holder == crate && !inner.isOpen) {
                    inner.waitsSince = state.time;
                }
            }
            return state.worksDirectlyIn(crate);
        }

        int closeCrate(int crate) {
            Crate closed = state.crates[crate];
            int venue = state.venueOfCrate(crate);
            if (state.hasVenue(venue)) {
                closed.temperature = state.venues[venue].temperature;
                closed.humidity = state.venues[venue].humidity;
            }
            closed.isOpen = false;
            closed.waitsSince = state.time;
            return state.worksInOrBelow(crate);
        }

        int putCrateInto(int crate, int into) {
            state.crates[crate].standAt(NONE);
            state.crates[crate].holder = into;
            return state.cratesDirectlyIn(into);
        }

        int takeCrateOut(int crate) {
            int holder = state.crates[crate].holder;
            state.crates[crate].standAt(state.venueOfCrate(crate));
            return holder;
        }

        int packWork(int work, int crate) {
            state.works[work].crate = crate;
            state.works[work].venue = NONE;
            return state.worksDirectlyIn(crate);
        }

        int unpackWork(int work) {
            int venue = state.venueOfWork(work);
            state.works[work].crate = NONE;
            state.works[work].venue = venue;
            return venue;
        }

        int sendCrate(int crate, int to, int courier) {
            Crate sent = state.crates[crate];
            sent.arrival = state.time + state.hoursBetween(sent.venue, to);
            sent.venue = NONE;
            sent.goal = to;
            sent.companion = courier;
            if (state.hasCourier(courier)) {
                state.couriers[courier] = NONE;
            }
            return sent.arrival;
        }

        int letHoursPass(int hours) {
            int before = state.arrived;
            for (int i = 0; i < hours; i++) {
                passHour();
            }
            return state.arrived - before;
        }

        private void passHour() {
            state.time++;
            for (int i = 0; i < state.crateCount; i++) {
                if (state.crates[i].goal != NONE && state.crates[i].arrival == state.time) {
                    arrive(i);
                }
            }
            if (state.time % HOURS_OF_A_DAY == 0) {
                endDay();
            }
        }

        private void arrive(int crate) {
            Crate sent = state.crates[crate];
            if (state.hasCourier(sent.companion)) {
                state.couriers[sent.companion] = sent.goal;
            }
            sent.standAt(sent.goal);
            sent.waitsSince = state.time;
            for (int i = 0; i < state.workCount; i++) {
                if (state.isInOrBelow(state.works[i].crate, crate)) {
                    state.works[i].legs--;
                }
            }
            state.arrived++;
        }

        private void endDay() {
            for (int i = 0; i < state.workCount; i++) {
                Work work = state.works[i];
                int venue = state.venueOfWork(i);
                int premium;
                if (state.hasVenue(venue)) {
                    premium = premiumOf(work.value, state.venues[venue].rate);
                    state.venues[venue].paid += premium;
                    work.notePlace(venue);
                } else {
                    premium = premiumOf(work.value, state.wayRate);
                    state.paidForWays += premium;
                    work.notePlace(PLACE_ON_THE_WAY);
                }
                work.paid += premium;
                state.paid += premium;
            }
        }

        private static int premiumOf(int value, int rate) {
            // The product of the greatest value and the greatest rate for ways is no int.
            return (int) ((long) value * rate / PREMIUM_DIVISOR);
        }
    }

    /** The values that the calls crate, work, venue and whole tell. */
    private static final class Values {
        private final State state;

        Values(State state) {
            this.state = state;
        }

        int ofCrate(int crate, int what) {
            Crate asked = state.crates[crate];
            Crate outer = state.crates[state.outermost(crate)];
            switch (what) {
                case 0:
                    return asked.insulation;
                case 1:
                    return asNumber(asked.isOpen);
                case 2:
                    return asked.holder;
                case 3:
                    return outer.venue;
                case 4:
                    return outer.goal;
                case 5:
                    return outer.arrival;
                case 6:
                    return temperatureIn(asked, outer.venue);
                case 7:
                    return humidityIn(asked, outer.venue);
                case 8:
                    return asked.isOpen ? NONE : asked.waitsSince;
                case 9:
                    return hoursNeeded(asked, outer.venue);
                case 10:
                    return state.worksInOrBelow(crate);
                case 11:
                    return state.cratesBelow(crate);
                case 12:
                    return state.valueInOrBelow(crate);
                default:
                    return asNumber(state.isWithinReach(crate));
            }
        }

        int ofWork(int work, int what) {
            Work asked = state.works[work];
            switch (what) {
                case 0:
                    return asked.lender;
                case 1:
                    return asked.value;
                case 2:
                    return asked.legs;
                case 3:
                    return asNumber(asked.escorted);
                case 4:
                    return asked.crate;
                case 5:
                    return state.venueOfWork(work);
                case 6:
                    return state.cratesOutwards(asked.crate);
                default:
                    return asked.paid;
            }
        }

        int ofVenue(int venue, int what) {
            Venue asked = state.venues[venue];
            switch (what) {
                case 0:
                    return asked.temperature;
                case 1:
                    return asked.humidity;
                case 2:
                    return asked.rate;
                case 3:
                    return asked.cap;
                case 4:
                    return state.valueAt(venue);
                case 5:
                    return state.valueOnTheWayTo(venue);
                case 6:
                    return cratesAt(venue);
                case 7:
                    return couriersAt(venue);
                default:
                    return asked.paid;
            }
        }

        int ofWhole(int what) {
            switch (what) {
                case 0:
                    return state.time;
                case 1:
                    return state.venueCount;
                case 2:
                    return state.crateCount;
                case 3:
                    return state.workCount;
                case 4:
                    return state.courierCount;
                case 5:
                    return state.paid;
                case 6:
                    return state.paidForWays;
                case 7:
                    return state.arrived;
                case 8:
                    return worksOnTheirWay();
                default:
                    return openCrates();
            }
        }

        private int temperatureIn(Crate crate, int venue) {
            boolean airOfVenue = crate.isOpen && state.hasVenue(venue);
            return airOfVenue ? state.venues[venue].temperature : crate.temperature;
        }

        private int humidityIn(Crate crate, int venue) {
            boolean airOfVenue = crate.isOpen && state.hasVenue(venue);
            return airOfVenue ? state.venues[venue].humidity : crate.humidity;
        }

        private int hoursNeeded(Crate crate, int venue) {
            boolean waits = !crate.isOpen && state.hasVenue(venue);
            return waits ? crate.hoursNeededAt(state.venues[venue]) : NONE;
        }

        private int cratesAt(int venue) {
            int count = 0;
            for (int i = 0; i < state.crateCount; i++) {
                if (state.crates[i].venue == venue) {
                    count++;
                }
            }
            return count;
        }

        private int couriersAt(int venue) {
            int count = 0;
            for (int i = 0; i < state.courierCount; i++) {
                if (state.couriers[i] == venue) {
                    count++;
                }
            }
            return count;
        }

        private int worksOnTheirWay() {
            int count = 0;
            for (int i = 0; i < state.workCount; i++) {
                if (state.goalOfWork(i) != NONE) {
                    count++;
                }
            }
            return count;
        }

        private int openCrates() {
            int count = 0;
            for (int i = 0; i < state.crateCount; i++) {
                if (state.crates[i].isOpen) {
                    count++;
                }
            }
            return count;
        }

        private static int asNumber(boolean yes) {
            return yes ? 1 : 0;
        }
    }

    /** Tells when works could be out of their crates. */
    private static final class Forecast {
        private final State state;
        private final Checks checks;
        /** The crates around a work, from inside to outside; filled anew by every forecast. */
        private final int[] around = new int[MAX_CRATES];

        Forecast(State state, Checks checks) {
            this.state = state;
            this.checks = checks;
        }

        int timeOfWork(int work) {
            int crate = state.works[work].crate;
            if (!state.hasCrate(crate)) {
                return state.time;
            }
            Crate outer = state.crates[state.outermost(crate)];
            if (outer.goal != NONE) {
                return timeThrough(crate, outer.goal, outer.arrival);
            }
            return timeThrough(crate, outer.venue, NONE);
        }

        int timeOfCrate(int crate) {
            int latest = NONE;
            for (int i = 0; i < state.workCount; i++) {
                if (state.isInOrBelow(state.works[i].crate, crate)) {
                    latest = Math.max(latest, timeOfWork(i));
                }
            }
            return latest;
        }

        int soonestVenue(int crate, int courier) {
            int best = NONE;
            int soonest = 0;
            for (int venue = 0; venue < state.venueCount; venue++) {
                if (checks.reasonAgainst(crate, venue, courier) == MAY_BE_SENT) {
                    int time = timeIfSent(crate, venue);
                    if (best == NONE || time < soonest) {
                        best = venue;
                        soonest = time;
                    }
                }
            }
            return best;
        }

        private int timeIfSent(int crate, int to) {
            int arrival = state.time + state.hoursBetween(state.crates[crate].venue, to);
            // No work is ready before the arrival, so a crate without works is by then.
            int latest = arrival;
            for (int i = 0; i < state.workCount; i++) {
                int inner = state.works[i].crate;
                if (state.isInOrBelow(inner, crate)) {
                    latest = Math.max(latest, timeThrough(inner, to, arrival));
                }
            }
            return latest;
        }

        /** When a crate could be open, all around it too, at a venue; arrival is NONE if it is there. */
        private int timeThrough(int crate, int venue, int arrival) {
            if (!state.hasVenue(venue)) {
                return state.time;
            }
            int depth = listAround(crate);
            int time = arrival == NONE ? state.time : arrival;
            boolean waitsAnew = arrival != NONE;
            for (int i = depth - 1; i >= 0; i--) {
                Crate next = state.crates[around[i]];
                if (!next.isOpen) {
                    int since = waitsAnew ? time : next.waitsSince;
                    time = Math.max(time, since + next.hoursNeededAt(state.venues[venue]));
                }
                waitsAnew = !next.isOpen;
            }
            return time;
        }

        private int listAround(int crate) {
            int depth = 0;
            int next = crate;
            while (depth < MAX_CRATES && state.hasCrate(next)) {
                around[depth] = next;
                next = state.crates[next].holder;
                depth++;
            }
            return depth;
        }
    }

    /** The latest saved states, the oldest one first. */
    private static final class UndoStack {
        private final State[] states = new State[KEPT_STATES];
        int count;

        UndoStack() {
            for (int i = 0; i < KEPT_STATES; i++) {
                states[i] = new State();
            }
        }

        void keep(State state) {
            if (count == KEPT_STATES) {
                dropOldest();
            }
            states[count].copyFrom(state);
            count++;
        }

        /** To be called only while there is a state on the stack. */
        int restore(State state) {
            count--;
            state.copyFrom(states[count]);
            return count;
        }

        private void dropOldest() {
            State oldest = states[0];
            for (int i = 1; i < KEPT_STATES; i++) {
                states[i - 1] = states[i];
            }
            // Its rows are used again for the next state that is saved.
            states[KEPT_STATES - 1] = oldest;
            count--;
        }
    }

    /** The words of the commands, with how many numbers follow each. */
    private enum Word {
        OPEN("open", 1),
        CLOSE("close", 1),
        NEST("nest", 2),
        OUT("out", 1),
        PACK("pack", 2),
        UNPACK("unpack", 1),
        SEND("send", 2),
        ESCORT("escort", 3),
        WAIT("wait", 1);

        final String letters;
        final int numberCount;

        Word(String letters, int numberCount) {
            this.letters = letters;
            this.numberCount = numberCount;
        }
    }

    /** The command text, and a reader that goes through it command by command. */
    private static final class CommandText {
        private static final int MAX_NUMBERS = 3;
        private static final int MAX_DIGITS = 4;

        private final byte[] bytes = new byte[MAX_TEXT];
        int length;
        private int position;
        /** The fault that the reader has met, or NONE. */
        private int fault = NONE;
        /** The command that was read last. */
        Word word = Word.OPEN;
        final int[] numbers = new int[MAX_NUMBERS];

        int append(int value) {
            bytes[length] = (byte) value;
            length++;
            return length;
        }

        int empty() {
            int previous = length;
            length = 0;
            return previous;
        }

        int findFault() {
            rewind();
            int read = 0;
            while (read < MAX_TEXT && readNext()) {
                read++;
            }
            return fault;
        }

        void rewind() {
            position = 0;
            fault = NONE;
        }

        /** Reads a command; answers false at the end of the text or at a fault. */
        boolean readNext() {
            skipSpaces();
            return position < length && readWord() && readNumbers() && readSemicolon();
        }

        private boolean readWord() {
            int start = position;
            while (position < length && bytes[position] >= 'a' && bytes[position] <= 'z') {
                position++;
            }
            for (int i = 0; i < WORDS.length; i++) {
                if (isWordAt(WORDS[i].letters, start)) {
                    word = WORDS[i];
                    return true;
                }
            }
            return failAt(start);
        }

        /** Whether the bytes from a start to the reader's position are these letters. */
        private boolean isWordAt(String letters, int start) {
            if (letters.length() != position - start) {
                return false;
            }
            for (int i = 0; i < letters.length(); i++) {
                if (bytes[start + i] != letters.charAt(i)) {
                    return false;
                }
            }
            return true;
        }

        private boolean readNumbers() {
            for (int i = 0; i < MAX_NUMBERS; i++) {
                numbers[i] = 0;
            }
            for (int i = 0; i < MAX_NUMBERS && i < word.numberCount; i++) {
                if (!readNumber(i)) {
                    return false;
                }
            }
            return true;
        }

        private boolean readNumber(int index) {
            if (position >= length || bytes[position] != ' ') {
                return failAt(position);
            }
            skipSpaces();
            if (!isAtDigit()) {
                return failAt(position);
            }
            // A fifth digit is left for what follows the number, which cannot begin with it.
            for (int i = 0; i < MAX_DIGITS && isAtDigit(); i++) {
                numbers[index] = 10 * numbers[index] + bytes[position] - '0';
                position++;
            }
            return true;
        }

        private boolean readSemicolon() {
            skipSpaces();
            if (position >= length || bytes[position] != ';') {
                return failAt(position);
            }
            position++;
            return true;
        }

        private void skipSpaces() {
            while (position < length && bytes[position] == ' ') {
                position++;
            }
        }

        private boolean isAtDigit() {
            return position < length && bytes[position] >= '0' && bytes[position] <= '9';
        }

        private boolean failAt(int index) {
            fault = index;
            return false;
        }
    }
}
