import java.util.Arrays;
import java.util.NoSuchElementException;

/**
 * A governor of heat: what a TEXT tells (zones, trips, devices, binds, walls), minute by minute, with what
 * would be, acts that are undone, and an image. The document's promises are told by their numbers below.
 */
public final class HeatGovernor {
    public static final int NONE = -1;

    private static final int REFUSED_HOLD = -2;

    private static final int MOST_BYTES = 700;
    private static final int BYTES_A_FEED = 20;

    private static final int MOST_ZONES = 5;
    private static final int MOST_TRIPS = 10;
    private static final int MOST_DEVICES = 6;
    private static final int MOST_WALLS = 8;
    private static final int MOST_BINDS = MOST_TRIPS * MOST_DEVICES;
    private static final int MOST_NOTED = 8;
    private static final int MOST_ACTS = 40;
    private static final int MOST_ROWS = 40;
    private static final int LOG_COLUMNS = 4;

    private static final int RAW = 0;
    private static final int MEAN = 1;
    private static final int MEDIAN = 2;
    private static final int SLOW = 3;
    private static final int DEEPEST = 4;
    private static final int USUAL_DEPTH = 3;

    private static final int STEP = 0;
    private static final int SHARE = 1;
    private static final int HOT = 2;
    private static final int CRITICAL = 3;

    private static final int FAN = 0;
    private static final int VALVE = 1;
    private static final int PUMP = 2;

    private static final int FIRST_HEAT = 200;
    private static final int MOST_HEAT = 1500;
    private static final int MOST_LOAD = 99;
    private static final int MOST_LEAK = 50;
    private static final int MOST_K = 50;
    private static final int LEAST_AT = 200;
    private static final int MOST_AT = 999;
    private static final int MOST_DROP = 99;
    private static final int MOST_STATE = 9;
    private static final int MOST_COOL = 30;
    private static final int MOST_WEIGHT = 9;
    private static final int MOST_FORESEEN = 9;

    private static final int LONGEST_ACT = 60;
    private static final int LONGEST_AHEAD = 200;
    private static final int LONGEST_BEARS = 60;
    private static final int LONGEST_NOTE = 60;
    private static final int LONGEST_LOOK = 20;
    private static final int LONGEST_YEARS = 60;

    private static final int WENT_ON = 1;
    private static final int WENT_OFF = 2;
    private static final int SHUT_CRITICAL = 3;
    private static final int SHUT_FORESEEN = 4;
    private static final int STARTED = 5;

    private static final int WHY_CRITICAL = 1;
    private static final int WHY_FORESEEN = 2;

    private static final int REFUSED_TEXTS = 0;
    private static final int REFUSED_ACTS = 1;
    private static final int REFUSED_NOTES = 2;
    private static final int STATUSES = 3;

    private final byte[] tape = new byte[MOST_BYTES];
    private int tapeLength = 0;
    private int faultPlace = NONE;
    private final Reader reader = new Reader(tape);
    private Plan plan = new Plan();
    // A TEXT is read into this one first, so that a FAULT leaves the plan in force alone.
    private Plan draft = new Plan();
    private final Memory memory = new Memory(plan);
    private final Memory imageMemory = new Memory(plan);
    private boolean imageKept = false;
    private final Clock clock = new Clock();
    private final Foresight foresight = new Foresight(plan, clock);

    /** Promise 1. */
    public HeatGovernor() {
    }

    /** Promise 2. */
    public int feed(int a, int b, int c, int d, int e) {
        if (tapeLength + BYTES_A_FEED > MOST_BYTES) {
            return NONE;
        }
        putNumber(a);
        putNumber(b);
        putNumber(c);
        putNumber(d);
        putNumber(e);
        return tapeLength;
    }

    private void putNumber(int number) {
        for (int shift = 24; shift >= 0 && tapeLength < MOST_BYTES; shift -= 8) {
            tape[tapeLength] = (byte) (number >>> shift);
            tapeLength++;
        }
    }

    /** Promise 3. */
    public int plan(int n) throws IllegalArgumentException {
        if (n < 0 || n > tapeLength) {
            throw new IllegalArgumentException("the tape has not so many bytes");
        }
        tapeLength = 0;
        int fault = reader.readText(n, draft);
        if (fault != 0) {
            faultPlace = reader.faultPlace();
            memory.status[REFUSED_TEXTS]++;
            return fault;
        }
        faultPlace = NONE;
        Plan old = plan;
        plan = draft;
        draft = old;
        memory.begin(plan);
        imageKept = false;
        return 0;
    }

    /** Promise 4. */
    public int fault() {
        return faultPlace;
    }

    /** Promise 5. */
    public int count(int what) throws NoSuchElementException {
        State now = memory.now;
        switch (what) {
            case 0: return plan.zoneCount;
            case 1: return plan.tripCount;
            case 2: return plan.deviceCount;
            case 3: return plan.bindCount;
            case 4: return plan.wallCount;
            case 5: return now.minute;
            case 6: return now.foreseen;
            case 7: return now.shutBits();
            case 8: return now.onBits();
            case 9: return foresight.firstMinutes(now);
            case 10: return foresight.firstZone(now);
            case 11: return foresight.neededDevice(now);
            case 12: return foresight.againMinutes(now);
            case 13: return now.logSize;
            case 14: return memory.actCount;
            case 15: return memory.noteCount;
            case 16: return tapeLength;
            case 17: return memory.status[REFUSED_TEXTS];
            case 18: return memory.status[REFUSED_ACTS];
            case 19: return memory.status[REFUSED_NOTES];
            default: throw new NoSuchElementException("no such what");
        }
    }

    /** Promise 6. */
    public int zone(int zone, int what) throws NoSuchElementException {
        needZone(zone);
        State now = memory.now;
        switch (what) {
            case 0: return now.heat[zone];
            case 1: return now.temp[zone];
            case 2: return now.slope[zone];
            case 3: return now.load[zone];
            case 4: return now.leak[zone];
            case 5: return plan.zones[zone].kind;
            case 6: return plan.zones[zone].depth;
            case 7: return now.isShut(zone) ? 1 : 0;
            case 8: return now.why[zone];
            case 9: return now.margin(zone);
            case 10: return now.cooling(zone);
            default: throw new NoSuchElementException("no such what");
        }
    }

    /** Promise 7. */
    public int trip(int trip, int what) throws NoSuchElementException {
        needTrip(trip);
        State now = memory.now;
        Trip told = plan.trips[trip];
        switch (what) {
            case 0: return told.zone;
            case 1: return told.sort;
            case 2: return told.at;
            case 3: return told.drop;
            case 4: return now.on[trip];
            case 5: return now.crossed[trip];
            case 6: return now.asked(trip);
            case 7: return told.pastBind - told.firstBind;
            default: throw new NoSuchElementException("no such what");
        }
    }

    /** Promise 8. */
    public int device(int device, int what) throws NoSuchElementException {
        needDevice(device);
        State now = memory.now;
        Device told = plan.devices[device];
        switch (what) {
            case 0: return told.make;
            case 1: return told.zone;
            case 2: return told.most;
            case 3: return now.cool[device];
            case 4: return now.position[device];
            case 5: return now.held[device];
            case 6: return now.greatestWanted(device);
            default: throw new NoSuchElementException("no such what");
        }
    }

    /** Promise 9. */
    public int bind(int trip, int device, int what) throws NoSuchElementException {
        needTrip(trip);
        needDevice(device);
        needWhat(what, 1);
        int bound = plan.bindOf(trip, device);
        if (bound == NONE) {
            return 0;
        }
        return what == 0 ? plan.binds[bound].weight : memory.now.wanted[bound];
    }

    /** Promise 10. */
    public int log(int ago, int what) throws NoSuchElementException {
        needWhat(what, LOG_COLUMNS - 1);
        State now = memory.now;
        if (ago < 0 || ago >= now.logSize) {
            throw new NoSuchElementException("no such row");
        }
        return now.logCell(ago, what);
    }

    /** Promise 11. */
    public int ahead(int zone, int n, int what) throws NoSuchElementException, IllegalArgumentException {
        needZone(zone);
        needWhat(what, 2);
        needMinutes(n, 0, LONGEST_AHEAD);
        State then = foresight.stateAhead(memory.now, n);
        switch (what) {
            case 0: return then.heat[zone];
            case 1: return then.temp[zone];
            default: return then.isShut(zone) ? 1 : 0;
        }
    }

    /** Promise 12. */
    public int bears(int zone, int n, int what) throws NoSuchElementException, IllegalArgumentException {
        needZone(zone);
        needWhat(what, 1);
        needMinutes(n, 1, what == 0 ? LONGEST_AHEAD : LONGEST_BEARS);
        return what == 0 ? foresight.peakHeat(memory.now, zone, n) : foresight.greatestLoad(memory.now, zone, n);
    }

    /** Promise 13. */
    public int flips(int trip, int n) throws NoSuchElementException, IllegalArgumentException {
        needTrip(trip);
        needMinutes(n, 1, LONGEST_AHEAD);
        return foresight.countFlips(memory.now, trip, n);
    }

    /** Promise 14. */
    public int minutes(int n) {
        if (n < 1 || n > LONGEST_ACT) {
            return refuseAct(NONE);
        }
        memory.keepAct();
        for (int i = 0; i < n; i++) {
            clock.passMinute(memory.now);
        }
        return memory.now.minute;
    }

    /** Promise 15. */
    public int load(int zone, int v) {
        if (!plan.hasZone(zone) || v < 0 || v > MOST_LOAD || memory.now.load[zone] == v) {
            return refuseAct(NONE);
        }
        memory.keepAct();
        int before = memory.now.load[zone];
        memory.now.load[zone] = v;
        return before;
    }

    /** Promise 16. */
    public int hold(int device, int state) {
        if (!plan.hasDevice(device) || state < NONE || state > plan.devices[device].most
                || memory.now.held[device] == state) {
            return refuseAct(REFUSED_HOLD);
        }
        memory.keepAct();
        int before = memory.now.held[device];
        memory.now.held[device] = state;
        return before;
    }

    /** Promise 17. */
    public int start(int zone) {
        if (!plan.hasZone(zone) || !memory.now.isShut(zone) || memory.now.isCriticalOn(zone)) {
            return refuseAct(NONE);
        }
        memory.keepAct();
        memory.now.why[zone] = 0;
        memory.now.addLogRow(STARTED, zone, NONE);
        return memory.now.temp[zone];
    }

    /** Promise 18. */
    public int foresee(int n) {
        if (n < 0 || n > MOST_FORESEEN || memory.now.foreseen == n) {
            return refuseAct(NONE);
        }
        memory.keepAct();
        int before = memory.now.foreseen;
        memory.now.foreseen = n;
        return before;
    }

    /** Promise 19. */
    public int undo() {
        return memory.undoAct() ? memory.actCount : NONE;
    }

    /** Promise 20. */
    public int note(int zone, int minutes, int heat) {
        boolean possible = plan.hasZone(zone) && minutes >= 0 && minutes <= LONGEST_NOTE
                && heat >= 0 && heat <= MOST_HEAT;
        if (!possible || !memory.addNote(zone, minutes, heat)) {
            memory.status[REFUSED_NOTES]++;
            return NONE;
        }
        return memory.noteCount;
    }

    /** Promise 21. */
    public int fits(int zone, int what) throws NoSuchElementException {
        needZone(zone);
        needWhat(what, 1);
        foresight.tryLeaks(memory, zone, 0);
        return what == 0 ? foresight.fitCount : foresight.fitLeast;
    }

    /** Promise 22. */
    public int look(int zone, int what) throws NoSuchElementException {
        needZone(zone);
        needWhat(what, 1);
        foresight.tryLeaks(memory, zone, LONGEST_LOOK);
        foresight.findLook();
        return what == 0 ? foresight.lookMinutes : foresight.lookUnlike;
    }

    /** Promise 23. */
    public void forget() {
        memory.noteCount = 0;
    }

    /** Promise 24. */
    public int years(int seed, int n, int what) throws NoSuchElementException, IllegalArgumentException {
        needWhat(what, 2);
        needMinutes(n, 0, LONGEST_YEARS);
        int greatest = foresight.liveYears(memory.now, seed, n);
        switch (what) {
            case 0: return greatest;
            case 1: return foresight.trial.shutBits();
            default: return foresight.trial.rowsEver - memory.now.rowsEver;
        }
    }

    /** Promise 25. */
    public void image() {
        imageMemory.copyFrom(memory);
        imageKept = true;
    }

    /** Promise 26. */
    public boolean restore() {
        if (!imageKept) {
            return false;
        }
        memory.copyFrom(imageMemory);
        return true;
    }

    private int refuseAct(int answer) {
        memory.status[REFUSED_ACTS]++;
        return answer;
    }

    private void needZone(int zone) {
        if (!plan.hasZone(zone)) {
            throw new NoSuchElementException("no such zone");
        }
    }

    private void needTrip(int trip) {
        if (!plan.hasTrip(trip)) {
            throw new NoSuchElementException("no such trip");
        }
    }

    private void needDevice(int device) {
        if (!plan.hasDevice(device)) {
            throw new NoSuchElementException("no such device");
        }
    }

    private static void needWhat(int what, int most) {
        if (what < 0 || what > most) {
            throw new NoSuchElementException("no such what");
        }
    }

    private static void needMinutes(int n, int least, int most) {
        if (n < least || n > most) {
            throw new IllegalArgumentException("not so many minutes");
        }
    }

    /** The document's quotient: downwards, below 0 too. Every divisor is told as 1 or more; another one gives 0. */
    private static int quotient(int dividend, int divisor) {
        return divisor > 0 ? Math.floorDiv(dividend, divisor) : 0;
    }

    private static int within(int value, int least, int most) {
        return Math.max(least, Math.min(most, value));
    }

    /** What the TEXT tells of a ZONE. */
    private static final class Zone {
        int load = 0;
        int leak = 1;
        int kind = RAW;
        int depth = 1;

        /** How many of the latest READINGS its TEMP hangs on. */
        int window() {
            return kind == MEAN || kind == MEDIAN ? depth : 1;
        }
    }

    /** What the TEXT tells of a TRIP; its BINDS stand in a row in the plan, from firstBind to ahead of pastBind. */
    private static final class Trip {
        int zone = 0;
        int sort = STEP;
        int at = LEAST_AT;
        int drop = 0;
        int firstBind = 0;
        int pastBind = 0;
    }

    /** What the TEXT tells of a DEVICE. */
    private static final class Device {
        int make = FAN;
        int zone = 0;
        int most = 1;
        int cool = 1;
    }

    /** What the TEXT tells of a BIND. */
    private static final class Bind {
        int trip = 0;
        int device = 0;
        int weight = 1;

        boolean comesBefore(Bind other) {
            if (trip != other.trip) {
                return trip < other.trip;
            }
            return weight != other.weight ? weight > other.weight : device < other.device;
        }
    }

    /** What the TEXT tells of a WALL. */
    private static final class Wall {
        int first = 0;
        int second = 0;
        int k = 1;
    }

    /** All that a TEXT tells; no ACT changes it. Its rows are made once and told anew by the next TEXT. */
    private static final class Plan {
        final Zone[] zones = new Zone[MOST_ZONES];
        final Trip[] trips = new Trip[MOST_TRIPS];
        final Device[] devices = new Device[MOST_DEVICES];
        final Bind[] binds = new Bind[MOST_BINDS];
        final Wall[] walls = new Wall[MOST_WALLS];
        int zoneCount = 0;
        int tripCount = 0;
        int deviceCount = 0;
        int bindCount = 0;
        int wallCount = 0;
        int foreseen = 0;
        boolean foreseenTold = false;

        Plan() {
            for (int i = 0; i < MOST_ZONES; i++) {
                zones[i] = new Zone();
            }
            for (int i = 0; i < MOST_TRIPS; i++) {
                trips[i] = new Trip();
            }
            for (int i = 0; i < MOST_DEVICES; i++) {
                devices[i] = new Device();
            }
            for (int i = 0; i < MOST_BINDS; i++) {
                binds[i] = new Bind();
            }
            for (int i = 0; i < MOST_WALLS; i++) {
                walls[i] = new Wall();
            }
        }

        void clear() {
            zoneCount = 0;
            tripCount = 0;
            deviceCount = 0;
            bindCount = 0;
            wallCount = 0;
            foreseen = 0;
            foreseenTold = false;
        }

        boolean hasZone(int zone) {
            return zone >= 0 && zone < zoneCount;
        }

        boolean hasTrip(int trip) {
            return trip >= 0 && trip < tripCount;
        }

        boolean hasDevice(int device) {
            return device >= 0 && device < deviceCount;
        }

        /** The critical TRIP of a ZONE, or NONE. */
        int criticalOf(int zone) {
            for (int t = 0; t < tripCount; t++) {
                if (trips[t].zone == zone && trips[t].sort == CRITICAL) {
                    return t;
                }
            }
            return NONE;
        }

        /** The BIND of a TRIP and a DEVICE, or NONE. */
        int bindOf(int trip, int device) {
            for (int b = 0; b < bindCount; b++) {
                if (binds[b].trip == trip && binds[b].device == device) {
                    return b;
                }
            }
            return NONE;
        }

        /** BINDS are kept by TRIP and then as SHARES are dealt out, so that a MINUTE needs no sorting. */
        void addBind(int trip, int device, int weight) {
            if (bindCount >= MOST_BINDS) {
                return;
            }
            Bind added = binds[bindCount];
            added.trip = trip;
            added.device = device;
            added.weight = weight;
            int place = bindCount;
            while (place > 0 && added.comesBefore(binds[place - 1])) {
                binds[place] = binds[place - 1];
                place--;
            }
            binds[place] = added;
            bindCount++;
        }

        void findBindsOfTrips() {
            int b = 0;
            for (int t = 0; t < tripCount; t++) {
                trips[t].firstBind = b;
                while (b < bindCount && binds[b].trip == t) {
                    b++;
                }
                trips[t].pastBind = b;
            }
        }
    }

    /**
     * Reads a TEXT into a plan, TOKEN by TOKEN. The first FAULT stays: no TOKEN is read behind it, what is read
     * then counts for nothing, and the plan is whole only without one.
     */
    private static final class Reader {
        private static final int END = 0;
        private static final int WORD = 1;
        private static final int NUMBER = 2;
        private static final int SEMICOLON = 3;
        private static final int NO_TOKEN = 4;

        private static final int MISPLACED = 1;
        private static final int TOO_MUCH = 2;
        private static final int NOT_TOLD = 3;
        private static final int CLASH = 4;

        private static final int MOST_DIGITS = 3;

        private final byte[] text;
        private int length = 0;
        private int place = 0;
        private int token = END;
        private int tokenPlace = 0;
        private int fault = 0;

        Reader(byte[] text) {
            this.text = text;
        }

        /** The FAULT of the first so many bytes, 0 without. */
        int readText(int count, Plan plan) {
            length = within(count, 0, text.length);
            place = 0;
            fault = 0;
            plan.clear();
            nextToken();
            // Each CLAUSE takes a byte at least.
            for (int clause = 0; clause < length && token != END && fault == 0; clause++) {
                readClause(plan);
                nextToken();
            }
            plan.findBindsOfTrips();
            return fault;
        }

        int faultPlace() {
            return fault == 0 ? NONE : tokenPlace;
        }

        private void readClause(Plan plan) {
            if (isWord("zone")) {
                readZone(plan);
            } else if (isWord("trip")) {
                readTrip(plan);
            } else if (isWord("device")) {
                readDevice(plan);
            } else if (isWord("bind")) {
                readBind(plan);
            } else if (isWord("wall")) {
                readWall(plan);
            } else if (isWord("foreseen")) {
                readForeseen(plan);
            } else {
                fail(MISPLACED);
            }
        }

        private void readZone(Plan plan) {
            if (plan.zoneCount >= MOST_ZONES) {
                fail(TOO_MUCH);
                return;
            }
            Zone zone = plan.zones[plan.zoneCount];
            zone.load = readNumber(0, MOST_LOAD);
            zone.leak = readNumber(1, MOST_LEAK);
            nextToken();
            zone.kind = filterKind();
            zone.depth = zone.kind == RAW ? 1 : readDepth();
            needSemicolon();
            plan.zoneCount++;
        }

        private int filterKind() {
            if (isWord("mean")) {
                return MEAN;
            }
            if (isWord("median")) {
                return MEDIAN;
            }
            return isWord("slow") ? SLOW : RAW;
        }

        /** Reads on to the TOKEN behind the DEPTH, which need not be there. */
        private int readDepth() {
            nextToken();
            if (token != NUMBER) {
                return USUAL_DEPTH;
            }
            int depth = needNumber(1, DEEPEST);
            nextToken();
            return depth;
        }

        private void readTrip(Plan plan) {
            if (plan.tripCount >= MOST_TRIPS) {
                fail(TOO_MUCH);
                return;
            }
            Trip trip = plan.trips[plan.tripCount];
            trip.zone = readTold(MOST_ZONES, plan.zoneCount);
            nextToken();
            trip.sort = readSort();
            if (trip.sort == CRITICAL && plan.criticalOf(trip.zone) != NONE) {
                fail(CLASH);
            }
            trip.at = readNumber(LEAST_AT, MOST_AT);
            trip.drop = readNumber(0, MOST_DROP);
            readEnd();
            plan.tripCount++;
        }

        private int readSort() {
            if (isWord("step")) {
                return STEP;
            }
            if (isWord("share")) {
                return SHARE;
            }
            if (isWord("hot")) {
                return HOT;
            }
            if (isWord("critical")) {
                return CRITICAL;
            }
            fail(MISPLACED);
            return HOT;
        }

        private void readDevice(Plan plan) {
            if (plan.deviceCount >= MOST_DEVICES) {
                fail(TOO_MUCH);
                return;
            }
            Device device = plan.devices[plan.deviceCount];
            nextToken();
            device.make = readMake();
            device.zone = readTold(MOST_ZONES, plan.zoneCount);
            device.most = readNumber(1, MOST_STATE);
            device.cool = readNumber(1, MOST_COOL);
            readEnd();
            plan.deviceCount++;
        }

        private int readMake() {
            if (isWord("fan")) {
                return FAN;
            }
            if (isWord("valve")) {
                return VALVE;
            }
            if (!isWord("pump")) {
                fail(MISPLACED);
            }
            return PUMP;
        }

        private void readBind(Plan plan) {
            int trip = readTold(MOST_TRIPS, plan.tripCount);
            if (plan.trips[trip].sort != STEP && plan.trips[trip].sort != SHARE) {
                fail(CLASH);
            }
            int device = readTold(MOST_DEVICES, plan.deviceCount);
            if (plan.bindOf(trip, device) != NONE) {
                fail(CLASH);
            }
            int weight = readNumber(1, MOST_WEIGHT);
            readEnd();
            if (fault == 0) {
                plan.addBind(trip, device, weight);
            }
        }

        private void readWall(Plan plan) {
            if (plan.wallCount >= MOST_WALLS) {
                fail(TOO_MUCH);
                return;
            }
            Wall wall = plan.walls[plan.wallCount];
            wall.first = readTold(MOST_ZONES, plan.zoneCount);
            wall.second = readTold(MOST_ZONES, plan.zoneCount);
            if (wall.second == wall.first) {
                fail(CLASH);
            }
            wall.k = readNumber(1, MOST_K);
            readEnd();
            plan.wallCount++;
        }

        private void readForeseen(Plan plan) {
            if (plan.foreseenTold) {
                fail(CLASH);
            }
            plan.foreseenTold = true;
            plan.foreseen = readNumber(0, MOST_FORESEEN);
            readEnd();
        }

        /** The number of a ZONE, TRIP or DEVICE that is told ahead; 0 with a FAULT. */
        private int readTold(int limit, int told) {
            nextToken();
            int index = needNumber(0, limit - 1);
            if (index >= told) {
                fail(NOT_TOLD);
            }
            return fault == 0 ? index : 0;
        }

        private int readNumber(int least, int most) {
            nextToken();
            return needNumber(least, most);
        }

        /** The NUMBER that stands here; the least one that may, with a FAULT. */
        private int needNumber(int least, int most) {
            int number = token == NUMBER ? numberHere() : NONE;
            if (token != NUMBER) {
                fail(MISPLACED);
            } else if (number < least || number > most) {
                fail(TOO_MUCH);
            }
            return fault == 0 ? number : least;
        }

        private void readEnd() {
            nextToken();
            needSemicolon();
        }

        private void needSemicolon() {
            if (token != SEMICOLON) {
                fail(MISPLACED);
            }
        }

        private void fail(int kind) {
            if (fault == 0) {
                fault = kind;
            }
        }

        private void nextToken() {
            if (fault != 0) {
                return;
            }
            while (place < length && (text[place] == ' ' || text[place] == '\n')) {
                place++;
            }
            tokenPlace = place;
            token = tokenAt(place);
            boolean isRow = token == WORD || token == NUMBER;
            place = Math.min(place + 1, length);
            while (isRow && place < length && tokenAt(place) == token) {
                place++;
            }
        }

        /** What kind of TOKEN a byte begins (or goes on with). */
        private int tokenAt(int where) {
            if (where >= length) {
                return END;
            }
            if (text[where] >= 'a' && text[where] <= 'z') {
                return WORD;
            }
            if (text[where] >= '0' && text[where] <= '9') {
                return NUMBER;
            }
            return text[where] == ';' ? SEMICOLON : NO_TOKEN;
        }

        /** What the NUMBER that stands here comes to; NONE, which no place takes, with too many digits. */
        private int numberHere() {
            if (place - tokenPlace > MOST_DIGITS) {
                return NONE;
            }
            int sum = 0;
            for (int i = tokenPlace; i < place; i++) {
                sum = sum * 10 + text[i] - '0';
            }
            return sum;
        }

        private boolean isWord(String word) {
            if (token != WORD || place - tokenPlace != word.length()) {
                return false;
            }
            for (int i = 0; i < word.length(); i++) {
                if (text[tokenPlace + i] != word.charAt(i)) {
                    return false;
                }
            }
            return true;
        }
    }

    /** All that ACTS change, with the LEAKS and COOLS of the plan beside it, so that a trial may change those too. */
    private static final class State {
        Plan plan;
        int minute = 0;
        int foreseen = 0;
        final int[] heat = new int[MOST_ZONES];
        final int[] load = new int[MOST_ZONES];
        final int[] leak = new int[MOST_ZONES];
        final int[] temp = new int[MOST_ZONES];
        final int[] slope = new int[MOST_ZONES];
        // 0: it is not SHUT.
        final int[] why = new int[MOST_ZONES];
        // Of each ZONE the latest DEEPEST ones, the latest first.
        final int[] readings = new int[MOST_ZONES * DEEPEST];
        final int[] on = new int[MOST_TRIPS];
        final int[] crossed = new int[MOST_TRIPS];
        final int[] position = new int[MOST_DEVICES];
        final int[] held = new int[MOST_DEVICES];
        final int[] cool = new int[MOST_DEVICES];
        final int[] wanted = new int[MOST_BINDS];
        // A ring of rows of LOG_COLUMNS cells: the next row to write, and how many stand.
        final int[] log = new int[MOST_ROWS * LOG_COLUMNS];
        int logNext = 0;
        int logSize = 0;
        int rowsEver = 0;

        State(Plan plan) {
            this.plan = plan;
        }

        /** As all is at first by a plan. */
        void begin(Plan told) {
            plan = told;
            minute = 0;
            foreseen = told.foreseen;
            for (int z = 0; z < told.zoneCount; z++) {
                heat[z] = FIRST_HEAT;
                temp[z] = FIRST_HEAT;
                slope[z] = 0;
                why[z] = 0;
                load[z] = told.zones[z].load;
                leak[z] = told.zones[z].leak;
            }
            Arrays.fill(readings, FIRST_HEAT);
            Arrays.fill(on, 0);
            Arrays.fill(crossed, 0);
            for (int d = 0; d < told.deviceCount; d++) {
                position[d] = 0;
                held[d] = NONE;
                cool[d] = told.devices[d].cool;
            }
            Arrays.fill(wanted, 0);
            logNext = 0;
            logSize = 0;
            rowsEver = 0;
        }

        void copyFrom(State other) {
            plan = other.plan;
            minute = other.minute;
            foreseen = other.foreseen;
            copyRow(other.heat, heat);
            copyRow(other.load, load);
            copyRow(other.leak, leak);
            copyRow(other.temp, temp);
            copyRow(other.slope, slope);
            copyRow(other.why, why);
            copyRow(other.readings, readings);
            copyRow(other.on, on);
            copyRow(other.crossed, crossed);
            copyRow(other.position, position);
            copyRow(other.held, held);
            copyRow(other.cool, cool);
            copyRow(other.wanted, wanted);
            copyRow(other.log, log);
            logNext = other.logNext;
            logSize = other.logSize;
            rowsEver = other.rowsEver;
        }

        private static void copyRow(int[] from, int[] to) {
            System.arraycopy(from, 0, to, 0, Math.min(from.length, to.length));
        }

        boolean isShut(int zone) {
            return why[zone] != 0;
        }

        int shutBits() {
            int bits = 0;
            for (int z = 0; z < plan.zoneCount; z++) {
                bits |= isShut(z) ? 1 << z : 0;
            }
            return bits;
        }

        int onBits() {
            int bits = 0;
            for (int t = 0; t < plan.tripCount; t++) {
                bits |= on[t] << t;
            }
            return bits;
        }

        boolean isCriticalOn(int zone) {
            int critical = plan.criticalOf(zone);
            return critical != NONE && on[critical] == 1;
        }

        /** MARGIN, or NONE. */
        int margin(int zone) {
            int least = NONE;
            for (int t = 0; t < plan.tripCount; t++) {
                Trip trip = plan.trips[t];
                if (trip.zone == zone && on[t] == 0) {
                    int gap = trip.at - temp[zone];
                    least = least == NONE ? gap : Math.min(least, gap);
                }
            }
            return least;
        }

        int cooling(int zone) {
            int sum = 0;
            for (int d = 0; d < plan.deviceCount; d++) {
                sum += plan.devices[d].zone == zone ? position[d] * cool[d] : 0;
            }
            return sum;
        }

        boolean allAtMost(int zone) {
            for (int d = 0; d < plan.deviceCount; d++) {
                Device device = plan.devices[d];
                if (device.zone == zone && position[d] < device.most) {
                    return false;
                }
            }
            return true;
        }

        /** ASKED of a TRIP; 0, if it is no share, or OFF (or nothing is bound to it). */
        int asked(int t) {
            Trip trip = plan.trips[t];
            if (trip.sort != SHARE || on[t] == 0) {
                return 0;
            }
            int most = 0;
            for (int b = trip.firstBind; b < trip.pastBind; b++) {
                most += plan.devices[plan.binds[b].device].most;
            }
            return Math.min(most, Math.max(1, quotient(temp[trip.zone] - trip.at, 10) + 1));
        }

        int greatestWanted(int device) {
            int greatest = 0;
            for (int b = 0; b < plan.bindCount; b++) {
                if (plan.binds[b].device == device) {
                    greatest = Math.max(greatest, wanted[b]);
                }
            }
            return greatest;
        }

        void shutZone(int zone, int trip, int reason) {
            why[zone] = reason;
            addLogRow(reason == WHY_CRITICAL ? SHUT_CRITICAL : SHUT_FORESEEN, zone, trip);
        }

        void addLogRow(int what, int zone, int trip) {
            int cell = logNext * LOG_COLUMNS;
            log[cell] = minute;
            log[cell + 1] = what;
            log[cell + 2] = zone;
            log[cell + 3] = trip;
            logNext = (logNext + 1) % MOST_ROWS;
            logSize = Math.min(logSize + 1, MOST_ROWS);
            rowsEver++;
        }

        int logCell(int ago, int column) {
            int row = Math.floorMod(logNext - 1 - ago, MOST_ROWS);
            return log[row * LOG_COLUMNS + column];
        }

        /** Whether all is as there that AGAIN asks for. */
        boolean isLike(State other) {
            return zonesLike(other) && sameRows(on, other.on, plan.tripCount)
                    && sameRows(position, other.position, plan.deviceCount)
                    && sameRows(wanted, other.wanted, plan.bindCount);
        }

        private boolean zonesLike(State other) {
            if (!sameRows(heat, other.heat, plan.zoneCount) || !sameRows(temp, other.temp, plan.zoneCount)) {
                return false;
            }
            for (int z = 0; z < plan.zoneCount; z++) {
                if (isShut(z) != other.isShut(z) || !readingsLike(other, z)) {
                    return false;
                }
            }
            return true;
        }

        private boolean readingsLike(State other, int zone) {
            int first = zone * DEEPEST;
            for (int i = first; i < first + plan.zones[zone].window(); i++) {
                if (readings[i] != other.readings[i]) {
                    return false;
                }
            }
            return true;
        }

        private static boolean sameRows(int[] one, int[] other, int count) {
            for (int i = 0; i < count; i++) {
                if (one[i] != other[i]) {
                    return false;
                }
            }
            return true;
        }
    }

    /** Lets a MINUTE go by. */
    private static final class Clock {
        private final int[] nextHeat = new int[MOST_ZONES];
        private final int[] sorted = new int[DEEPEST];

        void passMinute(State state) {
            moveHeats(state);
            readSensors(state);
            flipTrips(state);
            wantAll(state);
            moveDevices(state);
            shutZones(state);
            state.minute++;
        }

        private void moveHeats(State state) {
            Plan plan = state.plan;
            for (int z = 0; z < plan.zoneCount; z++) {
                int heat = state.heat[z];
                nextHeat[z] = heat + (state.isShut(z) ? 0 : state.load[z]) - quotient(heat - FIRST_HEAT, state.leak[z]);
            }
            for (int d = 0; d < plan.deviceCount; d++) {
                nextHeat[plan.devices[d].zone] -= state.position[d] * state.cool[d];
            }
            for (int w = 0; w < plan.wallCount; w++) {
                Wall wall = plan.walls[w];
                int flow = quotient(state.heat[wall.first] - state.heat[wall.second], wall.k);
                nextHeat[wall.first] -= flow;
                nextHeat[wall.second] += flow;
            }
            for (int z = 0; z < plan.zoneCount; z++) {
                state.heat[z] = within(nextHeat[z], 0, MOST_HEAT);
            }
        }

        private void readSensors(State state) {
            for (int z = 0; z < state.plan.zoneCount; z++) {
                int latest = z * DEEPEST;
                for (int i = latest + DEEPEST - 1; i > latest; i--) {
                    state.readings[i] = state.readings[i - 1];
                }
                state.readings[latest] = state.heat[z];
                int before = state.temp[z];
                state.temp[z] = filtered(state, z);
                state.slope[z] = state.temp[z] - before;
            }
        }

        private int filtered(State state, int z) {
            Zone zone = state.plan.zones[z];
            int reading = state.heat[z];
            switch (zone.kind) {
                case MEAN: return quotient(sumOfReadings(state, z, zone.depth), zone.depth);
                case MEDIAN: return medianOfReadings(state, z, zone.depth);
                case SLOW: return state.temp[z] + quotient(reading - state.temp[z], zone.depth);
                default: return reading;
            }
        }

        private int sumOfReadings(State state, int zone, int depth) {
            int sum = 0;
            for (int i = 0; i < depth; i++) {
                sum += state.readings[zone * DEEPEST + i];
            }
            return sum;
        }

        private int medianOfReadings(State state, int zone, int depth) {
            for (int i = 0; i < depth; i++) {
                int reading = state.readings[zone * DEEPEST + i];
                int place = i;
                while (place > 0 && sorted[place - 1] > reading) {
                    sorted[place] = sorted[place - 1];
                    place--;
                }
                sorted[place] = reading;
            }
            return sorted[Math.max(0, depth - 1) / 2];
        }

        private void flipTrips(State state) {
            for (int t = 0; t < state.plan.tripCount; t++) {
                Trip trip = state.plan.trips[t];
                int temp = state.temp[trip.zone];
                if (state.on[t] == 0 && temp >= trip.at) {
                    state.on[t] = 1;
                    state.crossed[t]++;
                    state.addLogRow(WENT_ON, trip.zone, t);
                } else if (state.on[t] == 1 && temp < trip.at - trip.drop) {
                    state.on[t] = 0;
                    state.addLogRow(WENT_OFF, trip.zone, t);
                }
            }
        }

        private void wantAll(State state) {
            for (int t = 0; t < state.plan.tripCount; t++) {
                if (state.plan.trips[t].sort == STEP) {
                    wantStep(state, t);
                } else if (state.plan.trips[t].sort == SHARE) {
                    wantShares(state, state.plan.trips[t], state.asked(t));
                }
            }
        }

        private void wantStep(State state, int t) {
            Plan plan = state.plan;
            Trip trip = plan.trips[t];
            int slope = state.slope[trip.zone];
            int change = state.on[t] == 0 ? -1 : Integer.compare(slope, 0);
            for (int b = trip.firstBind; b < trip.pastBind; b++) {
                int most = plan.devices[plan.binds[b].device].most;
                state.wanted[b] = within(state.wanted[b] + change, 0, most);
            }
        }

        private void wantShares(State state, Trip trip, int asked) {
            Plan plan = state.plan;
            int weights = 0;
            for (int b = trip.firstBind; b < trip.pastBind; b++) {
                weights += plan.binds[b].weight;
            }
            int left = asked;
            for (int b = trip.firstBind; b < trip.pastBind; b++) {
                int share = quotient(asked * plan.binds[b].weight, weights);
                state.wanted[b] = Math.min(share, plan.devices[plan.binds[b].device].most);
                left -= state.wanted[b];
            }
            // A round gives one to each that has fewer than its MOST, so as many rounds as the greatest MOST do.
            for (int round = 0; round < MOST_STATE && left > 0; round++) {
                for (int b = trip.firstBind; b < trip.pastBind && left > 0; b++) {
                    if (state.wanted[b] < plan.devices[plan.binds[b].device].most) {
                        state.wanted[b]++;
                        left--;
                    }
                }
            }
        }

        private void moveDevices(State state) {
            for (int d = 0; d < state.plan.deviceCount; d++) {
                int goal = state.held[d] == NONE ? state.greatestWanted(d) : state.held[d];
                state.position[d] = moved(state.plan.devices[d].make, state.position[d], goal);
            }
        }

        private static int moved(int make, int position, int goal) {
            switch (make) {
                case FAN: return position + Integer.compare(goal, position);
                case PUMP: return Math.max(goal, position - 1);
                default: return goal;
            }
        }

        private void shutZones(State state) {
            for (int t = 0; t < state.plan.tripCount; t++) {
                Trip trip = state.plan.trips[t];
                if (trip.sort != CRITICAL || state.isShut(trip.zone)) {
                    continue;
                }
                if (state.on[t] == 1) {
                    state.shutZone(trip.zone, t, WHY_CRITICAL);
                } else if (isForeseen(state, trip)) {
                    state.shutZone(trip.zone, t, WHY_FORESEEN);
                }
            }
        }

        private static boolean isForeseen(State state, Trip trip) {
            int slope = state.slope[trip.zone];
            return state.foreseen > 0 && slope > 0 && state.temp[trip.zone] + slope * state.foreseen >= trip.at
                    && state.allAtMost(trip.zone);
        }
    }

    /** What would be: each question is answered on a trial of its own, so that what is stays as it is. */
    private static final class Foresight {
        private static final int LOOKS = LONGEST_LOOK + 1;

        final State trial;
        int fitCount = 0;
        int fitLeast = NONE;
        int lookMinutes = NONE;
        int lookUnlike = 0;
        private final Clock clock;
        // Of each LEAK that fits the HEATS behind 0 to LONGEST_LOOK MINUTES.
        private final int[] fitHeats = new int[MOST_LEAK * LOOKS];
        private int seed = 0;

        Foresight(Plan plan, Clock clock) {
            this.trial = new State(plan);
            this.clock = clock;
        }

        State stateAhead(State now, int minutes) {
            trial.copyFrom(now);
            for (int i = 0; i < minutes; i++) {
                clock.passMinute(trial);
            }
            return trial;
        }

        int peakHeat(State now, int zone, int minutes) {
            trial.copyFrom(now);
            int peak = 0;
            for (int i = 0; i < minutes; i++) {
                clock.passMinute(trial);
                peak = Math.max(peak, trial.heat[zone]);
            }
            return peak;
        }

        int countFlips(State now, int trip, int minutes) {
            trial.copyFrom(now);
            int flips = 0;
            for (int i = 0; i < minutes; i++) {
                int before = trial.on[trip];
                clock.passMinute(trial);
                flips += trial.on[trip] == before ? 0 : 1;
            }
            return flips;
        }

        int firstMinutes(State now) {
            trial.copyFrom(now);
            return untilShutMore();
        }

        /** The least ZONE that FIRST shuts, or NONE. */
        int firstZone(State now) {
            trial.copyFrom(now);
            untilShutMore();
            for (int z = 0; z < now.plan.zoneCount; z++) {
                if (trial.isShut(z) && !now.isShut(z)) {
                    return z;
                }
            }
            return NONE;
        }

        int neededDevice(State now) {
            int needed = NONE;
            int least = LONGEST_AHEAD + 1;
            for (int d = 0; d < now.plan.deviceCount; d++) {
                trial.copyFrom(now);
                trial.cool[d] = 0;
                int first = untilShutMore();
                if (first != NONE && first < least) {
                    needed = d;
                    least = first;
                }
            }
            return needed;
        }

        /** The MINUTES behind which some ZONE more of the trial is SHUT, or NONE. */
        private int untilShutMore() {
            int before = trial.shutBits();
            for (int i = 1; i <= LONGEST_AHEAD; i++) {
                clock.passMinute(trial);
                if (trial.shutBits() != before) {
                    return i;
                }
            }
            return NONE;
        }

        int againMinutes(State now) {
            trial.copyFrom(now);
            for (int i = 1; i <= LONGEST_AHEAD; i++) {
                clock.passMinute(trial);
                if (trial.isLike(now)) {
                    return i;
                }
            }
            return NONE;
        }

        /** BEARS: each LOAD is tried, since more LOAD may also bring the DEVICES on sooner. */
        int greatestLoad(State now, int zone, int minutes) {
            for (int load = MOST_LOAD; load >= 0 && !now.isShut(zone); load--) {
                trial.copyFrom(now);
                trial.load[zone] = load;
                if (staysOpen(zone, minutes)) {
                    return load;
                }
            }
            return NONE;
        }

        private boolean staysOpen(int zone, int minutes) {
            for (int i = 0; i < minutes && !trial.isShut(zone); i++) {
                clock.passMinute(trial);
            }
            return !trial.isShut(zone);
        }

        /** FITS of a ZONE, and their HEATS for so many MINUTES at least. */
        void tryLeaks(Memory memory, int zone, int minutes) {
            int farthest = Math.max(minutes, memory.farthestNote());
            fitCount = 0;
            fitLeast = NONE;
            for (int leak = 1; leak <= MOST_LEAK; leak++) {
                trial.copyFrom(memory.now);
                trial.leak[zone] = leak;
                if (agreesWithNotes(memory, zone, farthest)) {
                    fitLeast = fitCount == 0 ? leak : fitLeast;
                    fitCount++;
                }
            }
        }

        /** Writes the HEATS as the next ones of those that fit, which stand only if this answers true. */
        private boolean agreesWithNotes(Memory memory, int zone, int minutes) {
            for (int i = 0; i <= minutes; i++) {
                if (i > 0) {
                    clock.passMinute(trial);
                }
                if (!memory.notesAgree(trial, i)) {
                    return false;
                }
                if (i <= LONGEST_LOOK) {
                    fitHeats[fitCount * LOOKS + i] = trial.heat[zone];
                }
            }
            return true;
        }

        /** LOOK NEXT by the HEATS of the FITS that were tried last. */
        void findLook() {
            lookMinutes = NONE;
            lookUnlike = 0;
            for (int minutes = 0; minutes <= LONGEST_LOOK; minutes++) {
                int unlike = countUnlike(minutes);
                if (unlike > lookUnlike) {
                    lookMinutes = minutes;
                    lookUnlike = unlike;
                }
            }
        }

        private int countUnlike(int minutes) {
            int unlike = 0;
            for (int fit = 0; fit < fitCount; fit++) {
                unlike += isNewHeat(fit, minutes) ? 1 : 0;
            }
            return unlike;
        }

        private boolean isNewHeat(int fit, int minutes) {
            for (int earlier = 0; earlier < fit; earlier++) {
                if (fitHeats[earlier * LOOKS + minutes] == fitHeats[fit * LOOKS + minutes]) {
                    return false;
                }
            }
            return true;
        }

        /** YEARS: the greatest HEAT; the trial is as all is at their end. */
        int liveYears(State now, int firstSeed, int times) {
            trial.copyFrom(now);
            seed = firstSeed;
            int greatest = 0;
            for (int i = 0; i < times; i++) {
                if (draw(4) == 0 && now.plan.zoneCount > 0) {
                    int zone = draw(now.plan.zoneCount);
                    trial.load[zone] = draw(MOST_LOAD + 1);
                }
                clock.passMinute(trial);
                for (int z = 0; z < now.plan.zoneCount; z++) {
                    greatest = Math.max(greatest, trial.heat[z]);
                }
            }
            return greatest;
        }

        private int draw(int n) {
            seed = seed * 1103515245 + 12345;
            return n > 0 ? (seed >>> 16 & 0x7fff) % n : 0;
        }
    }

    /** All that an image keeps: what ACTS change, the ACTS that are kept, what is NOTED, STATUS. */
    private static final class Memory {
        final State now;
        // A ring of what was ahead of each ACT; a row is made when it is first needed, and used again.
        private final State[] acts = new State[MOST_ACTS];
        private int actNext = 0;
        int actCount = 0;
        private final int[] noteZone = new int[MOST_NOTED];
        private final int[] noteMinutes = new int[MOST_NOTED];
        private final int[] noteHeat = new int[MOST_NOTED];
        int noteCount = 0;
        final int[] status = new int[STATUSES];

        Memory(Plan plan) {
            now = new State(plan);
        }

        /** All anew by a plan, but for STATUS. */
        void begin(Plan plan) {
            now.begin(plan);
            actNext = 0;
            actCount = 0;
            noteCount = 0;
        }

        void keepAct() {
            rowOfAct(actNext).copyFrom(now);
            actNext = (actNext + 1) % MOST_ACTS;
            actCount = Math.min(actCount + 1, MOST_ACTS);
        }

        /** False: there is none. */
        boolean undoAct() {
            if (actCount == 0) {
                return false;
            }
            actNext = Math.floorMod(actNext - 1, MOST_ACTS);
            actCount--;
            now.copyFrom(rowOfAct(actNext));
            return true;
        }

        private State rowOfAct(int place) {
            State row = acts[place];
            if (row == null) {
                row = new State(now.plan);
                acts[place] = row;
            }
            return row;
        }

        /** False: there are as many as there may be. */
        boolean addNote(int zone, int minutes, int heat) {
            if (noteCount >= MOST_NOTED) {
                return false;
            }
            noteZone[noteCount] = zone;
            noteMinutes[noteCount] = minutes;
            noteHeat[noteCount] = heat;
            noteCount++;
            return true;
        }

        int farthestNote() {
            int farthest = 0;
            for (int i = 0; i < noteCount; i++) {
                farthest = Math.max(farthest, noteMinutes[i]);
            }
            return farthest;
        }

        /** Whether a state so many MINUTES ahead is as all that is NOTED of that time. */
        boolean notesAgree(State state, int minutes) {
            for (int i = 0; i < noteCount; i++) {
                if (noteMinutes[i] == minutes && noteHeat[i] != state.heat[noteZone[i]]) {
                    return false;
                }
            }
            return true;
        }

        void copyFrom(Memory other) {
            now.copyFrom(other.now);
            actNext = other.actNext;
            actCount = other.actCount;
            for (int ago = 1; ago <= actCount; ago++) {
                int place = Math.floorMod(actNext - ago, MOST_ACTS);
                rowOfAct(place).copyFrom(other.rowOfAct(place));
            }
            noteCount = other.noteCount;
            System.arraycopy(other.noteZone, 0, noteZone, 0, MOST_NOTED);
            System.arraycopy(other.noteMinutes, 0, noteMinutes, 0, MOST_NOTED);
            System.arraycopy(other.noteHeat, 0, noteHeat, 0, MOST_NOTED);
            System.arraycopy(other.status, 0, status, 0, STATUSES);
        }
    }
}
