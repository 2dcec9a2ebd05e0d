/**
 * The edges of what is asked of now: each sentence of promises 5 (count) to 10 (log) that names a boundary case,
 * with the calls beside it. A remark tells the promise and the sentence.
 */
public final class EdgeAnswerTest {
    private static final Check CHECK = new Check();
    private static final int[] FAR = {Integer.MIN_VALUE, -2, -1, Integer.MAX_VALUE};

    public static void main(String[] args) {
        countWhats();
        shutBits();
        onBits();
        emptyAndFull();
        refusedCalls();
        callsThatThrow();
        zoneWhats();
        noSuchZone();
        whyOfAZone();
        marginOfAZone();
        whatDevicesCool();
        tripWhats();
        noSuchTrip();
        askedOfATrip();
        deviceWhats();
        noSuchDevice();
        heldAtNone();
        bindWhats();
        notBound();
        logWhats();
        logRows();
        asMuchAsMayBe();
        manyCalls();
        CHECK.end();
    }

    private interface Asked {
        int of(int what);
    }

    /** Each what up to the last one is answered, what is beside these is none. */
    private static void whats(String name, int last, Asked asked) {
        for (int what = 0; what <= last; what++) {
            int w = what;
            CHECK.same(name + ", what " + what + " is answered", Check.outcome(() -> asked.of(w)) > Check.NO_SUCH ? 1 : 0, 1);
        }
        CHECK.noSuch(name + ", what " + (last + 1), () -> asked.of(last + 1));
        for (int what : FAR) {
            CHECK.noSuch(name + ", what " + what, () -> asked.of(what));
        }
    }

    /** Each index up to the last one is answered, what is beside these is none. */
    private static void rows(String name, int last, Asked asked) {
        whats(name + " by its number", last, asked);
    }

    // ---- promise 5

    /** Promise 5: "NoSuchElementException: another what." */
    private static void countWhats() {
        HeatGovernor g = Check.told("zone 9 9;");
        whats("count", 19, what -> g.count(what));
        HeatGovernor none = new HeatGovernor();
        whats("count of nothing", 19, what -> none.count(what));
    }

    /** Promise 5: "7 ZONES that are SHUT (bits)". */
    private static void shutBits() {
        for (int z = 0; z < 5; z++) {
            HeatGovernor g = Check.told("zone 0 50;".repeat(5) + "trip " + z + " critical 200 0;");
            CHECK.same("none", g.count(7), 0);
            g.minutes(1);
            CHECK.same("zone " + z, g.count(7), 1 << z);
        }
        HeatGovernor all = Check.told("zone 0 50;".repeat(5) + "trip 0 critical 200 0;trip 1 critical 200 0;"
                + "trip 2 critical 200 0;trip 3 critical 200 0;trip 4 critical 200 0;");
        all.minutes(1);
        CHECK.same("all five", all.count(7), 31);
    }

    /** Promise 5: "8 TRIPS that are ON (bits)". */
    private static void onBits() {
        for (int t = 0; t < 10; t++) {
            HeatGovernor g = Check.told("zone 0 50;" + "trip 0 hot 201 0;".repeat(t) + "trip 0 hot 200 0;"
                    + "trip 0 hot 201 0;".repeat(9 - t));
            CHECK.same("none", g.count(8), 0);
            g.minutes(1);
            CHECK.same("trip " + t, g.count(8), 1 << t);
        }
        HeatGovernor all = Check.told("zone 0 50;" + "trip 0 hot 200 0;".repeat(10));
        all.minutes(1);
        CHECK.same("all ten", all.count(8), 1023);
    }

    /** Promise 5: "13 rows of THE LOG, 14 ACTS that are kept, 15 NOTED, 16 bytes of the tape, 17 to 19 STATUS 0 to 2." */
    private static void emptyAndFull() {
        HeatGovernor g = Check.told("zone 30 50;trip 0 step 230 0;device valve 0 9 20;bind 0 0 1;trip 0 hot 235 0;");
        CHECK.row("empty", new int[] {g.count(13), g.count(14), g.count(15), g.count(16), g.count(17), g.count(18),
            g.count(19)}, 0, 0, 0, 0, 0, 0, 0);
        for (int i = 0; i < 41; i++) {
            g.minutes(1);
        }
        for (int i = 0; i < 9; i++) {
            g.note(0, 0, 0);
        }
        Check.plan(g, "?");
        g.minutes(0);
        g.minutes(61);
        Check.feed(g, " ".repeat(700));
        CHECK.row("full", new int[] {g.count(13), g.count(14), g.count(15), g.count(16), g.count(17), g.count(18),
            g.count(19)}, 40, 40, 8, 700, 1, 2, 1);
    }

    private static int[] status(HeatGovernor g) {
        return new int[] {g.count(17), g.count(18), g.count(19)};
    }

    /** Promise 5 (part 3): "STATUS: how many calls were refused: 0 TEXTS with a FAULT, 1 ACTS, 2 what is NOTED." */
    private static void refusedCalls() {
        HeatGovernor g = Check.told("zone 9 9;device fan 0 9 1;");
        CHECK.row("a TEXT without a FAULT", status(g), 0, 0, 0);
        Check.plan(g, "?");
        CHECK.row("with one", status(g), 1, 0, 0);
        g.minutes(1);
        g.load(0, 5);
        g.hold(0, 5);
        g.foresee(5);
        g.note(0, 0, 200);
        CHECK.row("ACTS and a note that are taken", status(g), 1, 0, 0);
        g.minutes(61);
        g.load(0, 5);
        g.hold(0, 5);
        g.start(0);
        g.foresee(5);
        CHECK.row("one ACT of each kind", status(g), 1, 5, 0);
        g.note(1, 0, 200);
        CHECK.row("a note", status(g), 1, 5, 1);
        g.undo();
        g.forget();
        CHECK.row("neither undo nor forget takes any back", status(g), 1, 5, 1);
        Check.plan(g, "zone 9 9;");
        CHECK.row("nor does a TEXT", status(g), 1, 5, 1);
    }

    /** Promise 5 (part 3): "STATUS: how many calls were refused" (a call that throws, undo() and feed() are none of these). */
    private static void callsThatThrow() {
        HeatGovernor g = Check.told("zone 9 9;");
        CHECK.illegal("plan", () -> g.plan(1));
        CHECK.illegal("ahead", () -> g.ahead(0, 201, 0));
        CHECK.noSuch("zone", () -> g.zone(1, 0));
        CHECK.noSuch("fits", () -> g.fits(1, 0));
        CHECK.row("undo, restore", new int[] {g.undo(), g.restore() ? 1 : 0}, -1, 0);
        Check.feed(g, " ".repeat(700));
        CHECK.same("feed", g.feed(0, 0, 0, 0, 0), -1);
        CHECK.row("none counts", status(g), 0, 0, 0);
    }

    // ---- promise 6

    /** Promise 6: "NoSuchElementException: no such ZONE (as everywhere), another what." (Another what.) */
    private static void zoneWhats() {
        HeatGovernor g = Check.told("zone 9 9;zone 9 9 slow;");
        whats("zone 0", 10, what -> g.zone(0, what));
        whats("zone 1", 10, what -> g.zone(1, what));
    }

    /** Promise 6: "NoSuchElementException: no such ZONE (as everywhere), another what." (No such ZONE.) */
    private static void noSuchZone() {
        HeatGovernor g = Check.told("zone 9 9;".repeat(5) + "trip 0 hot 300 0;");
        rows("zone", 4, z -> g.zone(z, 0));
        rows("ahead", 4, z -> g.ahead(z, 0, 0));
        rows("bears", 4, z -> g.bears(z, 1, 0));
        rows("fits", 4, z -> g.fits(z, 0));
        rows("look", 4, z -> g.look(z, 0));
        CHECK.noSuch("neither ZONE nor what", () -> g.zone(5, 11));
        HeatGovernor one = Check.told("zone 9 9;");
        rows("one zone", 0, z -> one.zone(z, 0));
        Check.plan(g, "zone 9 9;");
        rows("of the text that is told now", 0, z -> g.zone(z, 0));
    }

    /** Promise 6: "7 whether SHUT, 8 WHY (0: it isn't)". */
    private static void whyOfAZone() {
        HeatGovernor g = Check.told("zone 20 50;zone 19 50;zone 18 50;trip 0 critical 220 0;trip 1 critical 220 0;"
                + "trip 2 critical 237 0;foreseen 1;");
        CHECK.row("it isn't", new int[] {g.zone(0, 7), g.zone(0, 8), g.zone(1, 7), g.zone(1, 8)}, 0, 0, 0, 0);
        g.minutes(1);
        CHECK.row("1", new int[] {g.zone(0, 7), g.zone(0, 8)}, 1, 1);
        CHECK.row("2", new int[] {g.zone(1, 7), g.zone(1, 8)}, 1, 2);
        CHECK.row("0: 218 and 18 are 236", new int[] {g.zone(2, 7), g.zone(2, 8)}, 0, 0);
        g.start(1);
        CHECK.row("STARTED", new int[] {g.zone(1, 7), g.zone(1, 8)}, 0, 0);
    }

    /** Promise 6: "9 MARGIN (NONE)" (part 3: "the least of AT less TEMP of its TRIPS that are OFF; none"). */
    private static void marginOfAZone() {
        HeatGovernor g = Check.told("zone 30 50;zone 0 50;zone 0 50;trip 0 hot 200 0;trip 0 step 230 0;trip 0 critical 261 0;"
                + "trip 1 hot 999 0;");
        CHECK.row("at AT already, but OFF", new int[] {g.zone(0, 9), g.zone(1, 9)}, 0, 799);
        CHECK.same("without a TRIP", g.zone(2, 9), -1);
        g.minutes(1);
        CHECK.row("230: of the one that is OFF", new int[] {g.count(8), g.zone(0, 9)}, 3, 31);
        g.minutes(1);
        CHECK.row("260: the last one", new int[] {g.count(8), g.zone(0, 9)}, 3, 1);
        g.minutes(1);
        CHECK.row("all ON", new int[] {g.count(8), g.zone(0, 9), g.zone(1, 9)}, 7, -1, 799);
    }

    /** Promise 6: "10 what its DEVICES cool in a MINUTE." (None; as much as may be.) */
    private static void whatDevicesCool() {
        HeatGovernor g = Check.told("zone 0 50;zone 0 50;" + "device valve 0 9 30;".repeat(6));
        CHECK.row("at first", new int[] {g.zone(0, 10), g.zone(1, 10)}, 0, 0);
        for (int d = 0; d < 6; d++) {
            g.hold(d, 9);
        }
        CHECK.same("not ahead of a minute", g.zone(0, 10), 0);
        g.minutes(1);
        CHECK.row("six times 9 times 30", new int[] {g.zone(0, 10), g.zone(1, 10)}, 1620, 0);
    }

    // ---- promises 7 to 9

    /** Promise 7: "NoSuchElementException: no such TRIP (as everywhere), another what." (Another what.) */
    private static void tripWhats() {
        HeatGovernor g = Check.told("zone 9 9;trip 0 share 200 0;trip 0 critical 200 0;");
        whats("trip 0", 7, what -> g.trip(0, what));
        whats("trip 1", 7, what -> g.trip(1, what));
    }

    /** Promise 7: "NoSuchElementException: no such TRIP (as everywhere), another what." (No such TRIP.) */
    private static void noSuchTrip() {
        HeatGovernor g = Check.told("zone 9 9;" + "trip 0 step 300 0;".repeat(10) + "device fan 0 1 1;");
        rows("trip", 9, t -> g.trip(t, 0));
        rows("bind", 9, t -> g.bind(t, 0, 0));
        rows("flips", 9, t -> g.flips(t, 1));
        CHECK.noSuch("neither TRIP nor what", () -> g.trip(10, 8));
        HeatGovernor one = Check.told("zone 9 9;trip 0 hot 300 0;");
        rows("one trip", 0, t -> one.trip(t, 0));
    }

    /** Promise 7: "6 ASKED (0: not a share, or OFF)". */
    private static void askedOfATrip() {
        HeatGovernor g = Check.told("zone 9 50;trip 0 share 209 0;trip 0 share 210 0;trip 0 step 209 0;device fan 0 9 1;"
                + "bind 0 0 1;bind 1 0 1;bind 2 0 1;");
        CHECK.row("OFF", new int[] {g.trip(0, 6), g.trip(1, 6), g.trip(2, 6)}, 0, 0, 0);
        g.minutes(1);
        CHECK.row("ON, OFF, a step", new int[] {g.trip(0, 6), g.trip(1, 6), g.trip(2, 6), g.count(8)}, 1, 0, 0, 5);
    }

    /** Promise 8: "NoSuchElementException: no such DEVICE (as everywhere), another what." (Another what.) */
    private static void deviceWhats() {
        HeatGovernor g = Check.told("zone 9 9;device fan 0 1 1;device pump 0 9 30;");
        whats("device 0", 6, what -> g.device(0, what));
        whats("device 1", 6, what -> g.device(1, what));
    }

    /** Promise 8: "NoSuchElementException: no such DEVICE (as everywhere), another what." (No such DEVICE.) */
    private static void noSuchDevice() {
        HeatGovernor g = Check.told("zone 9 9;trip 0 step 300 0;" + "device fan 0 1 1;".repeat(6));
        rows("device", 5, d -> g.device(d, 0));
        rows("bind", 5, d -> g.bind(0, d, 0));
        CHECK.noSuch("neither DEVICE nor what", () -> g.device(6, 7));
        HeatGovernor one = Check.told("zone 9 9;device fan 0 1 1;");
        rows("one device", 0, d -> one.device(d, 0));
    }

    /** Promise 8: "5 what it is HELD at (NONE)". */
    private static void heldAtNone() {
        HeatGovernor g = Check.told("zone 9 9;device fan 0 9 1;");
        CHECK.same("not HELD", g.device(0, 5), -1);
        g.hold(0, 0);
        CHECK.same("at 0", g.device(0, 5), 0);
        g.hold(0, 9);
        CHECK.same("at MOST", g.device(0, 5), 9);
        g.hold(0, -1);
        CHECK.same("no more", g.device(0, 5), -1);
    }

    /** Promise 9: "NoSuchElementException: also another what." */
    private static void bindWhats() {
        HeatGovernor g = Check.told("zone 9 9;trip 0 step 300 0;trip 0 hot 300 0;device fan 0 1 1;bind 0 0 9;");
        whats("bind", 1, what -> g.bind(0, 0, what));
        whats("not bound", 1, what -> g.bind(1, 0, what));
        CHECK.noSuch("no such TRIP", () -> g.bind(2, 0, 0));
        CHECK.noSuch("no such DEVICE", () -> g.bind(0, 1, 0));
        CHECK.noSuch("neither of them", () -> g.bind(2, 1, 2));
    }

    /** Promise 9: "its WEIGHT (what 0; 0: not bound), WANTED (1; 0: not bound)." */
    private static void notBound() {
        HeatGovernor g = Check.told("zone 50 50;trip 0 share 200 0;trip 0 hot 200 0;device fan 0 9 1;device fan 0 9 1;bind 0 1 9;");
        CHECK.row("bound", new int[] {g.bind(0, 1, 0), g.bind(0, 1, 1)}, 9, 0);
        g.minutes(1);
        CHECK.row("bound, ON", new int[] {g.bind(0, 1, 0), g.bind(0, 1, 1)}, 9, 6);
        CHECK.row("not bound, ON", new int[] {g.bind(0, 0, 0), g.bind(0, 0, 1), g.bind(1, 1, 0), g.bind(1, 1, 1)}, 0, 0, 0, 0);
    }

    // ---- promise 10

    /** Promise 10: "NoSuchElementException: there is none, another what." (Another what.) */
    private static void logWhats() {
        HeatGovernor g = Check.told("zone 0 50;trip 0 hot 200 0;");
        g.minutes(1);
        whats("log", 3, what -> g.log(0, what));
    }

    /** Promise 10: "Of a row of THE LOG so many ago (0: the latest)" and "NoSuchElementException: there is none". */
    private static void logRows() {
        HeatGovernor g = Check.told("zone 0 50;" + "trip 0 hot 200 0;".repeat(3));
        CHECK.noSuch("none at all", () -> g.log(0, 0));
        g.minutes(1);
        rows("log", 2, ago -> g.log(ago, 0));
        CHECK.row("0: the latest", new int[] {g.log(0, 3), g.log(1, 3), g.log(2, 3)}, 2, 1, 0);
        CHECK.noSuch("neither row nor what", () -> g.log(3, 4));
        g.undo();
        CHECK.noSuch("none, again", () -> g.log(0, 0));
    }

    // ---- all

    /** Promises 5 to 13, 21, 22, 24 (part 1): "(at most 5)", "(at most 10)", "(at most 6)", "at most 8" (all of these at once). */
    private static void asMuchAsMayBe() {
        StringBuilder text = new StringBuilder("zone 1 50;".repeat(5));
        for (int t = 0; t < 10; t++) {
            text.append("trip").append(t % 5).append(t < 5 ? "critical250 9;" : "share200 0;");
        }
        for (int d = 0; d < 6; d++) {
            text.append("device valve").append(d % 5).append(" 9 1;");
        }
        for (int d = 0; d < 6; d++) {
            text.append("bind9 ").append(d).append(" 1;");
        }
        for (int w = 0; w < 8; w++) {
            text.append("wall").append(w % 5).append(' ').append((w + 1) % 5).append(" 50;");
        }
        HeatGovernor g = Check.told(text.toString());
        CHECK.row("all told", new int[] {g.count(0), g.count(1), g.count(2), g.count(3), g.count(4)}, 5, 10, 6, 6, 8);
        g.minutes(1);
        // All are 201, so that nothing goes through a wall; of one that is ASKED the first one has it.
        CHECK.row("the last ones", new int[] {g.zone(4, 0), g.trip(9, 4), g.trip(9, 6), g.bind(9, 0, 1), g.bind(9, 5, 1),
            g.device(0, 4), g.device(5, 4), g.count(8)}, 201, 1, 1, 1, 0, 1, 0, 992);
        CHECK.row("the last ZONE AHEAD", new int[] {g.ahead(4, 1, 0), g.ahead(4, 1, 1), g.ahead(4, 1, 2)}, 202, 202, 0);
        CHECK.row("FLIPS of the last TRIP", new int[] {g.flips(9, 1), g.flips(9, 200)}, 0, 0);
        CHECK.row("the last ZONE's PEAK, BEARS, FITS", new int[] {g.bears(4, 1, 0), g.bears(4, 1, 1), g.fits(4, 0), g.fits(4, 1)},
                202, 48, 50, 1);
        CHECK.row("nothing moves", new int[] {Check.plan(g, "zone 0 50;".repeat(5) + "trip 4 hot 999 0;".repeat(10)
            + "device fan 4 9 9;".repeat(6) + "wall 0 1 9;".repeat(8)), g.count(12), g.look(4, 0), g.look(4, 1)}, 0, 1, 0, 1);
    }

    /** All promises: "An object is used for at most 512 calls after it has been made". */
    private static void manyCalls() {
        HeatGovernor g = new HeatGovernor();
        String text = "zone 30 50;trip 0 step 230 0;device valve 0 9 20;bind 0 0 1;trip 0 hot 235 0;";
        int calls = (Check.feed(g, text) + 19) / 20;
        CHECK.same("the text", g.plan(text.length()), 0);
        int hours = 0;
        for (calls++; calls < 509; calls++) {
            g.minutes(60);
            hours++;
        }
        // TEMP is 230 behind an odd number of MINUTES and 240 behind an even one.
        CHECK.row("510 to 512", new int[] {g.count(5), g.zone(0, 0), g.undo()}, 60 * hours, 240, 39);
    }
}
