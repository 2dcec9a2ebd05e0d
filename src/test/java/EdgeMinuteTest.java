/**
 * The edges of a MINUTE: each sentence of the document's part 2 that names a boundary case, as promises 5 to 10
 * show it, with what is beside it. A remark tells the promise and the sentence.
 */
public final class EdgeMinuteTest {
    private static final Check CHECK = new Check();

    public static void main(String[] args) {
        quotientTests();
        heatTests();
        filterTests();
        tripTests();
        stepTests();
        shareTests();
        deviceTests();
        shutTests();
        logTests();
        CHECK.end();
    }

    private static void quotientTests() {
        leakGoesDownwards();
        wallGoesDownwards();
        slowGoesDownwards();
        meanGoesDownwards();
    }

    private static void heatTests() {
        heatsAtItsBegin();
        loadOfAShutZone();
        heldAtMost();
        heldAtLeast();
        heldBehindTheWalls();
        coolsByStateTimesCool();
    }

    private static void filterTests() {
        readingsAheadOfAll();
        meanOfTheLatest();
        medianInTheMiddle();
        lesserOfTwoInTheMiddle();
        slowByDepth();
        slopeOfAMinute();
    }

    private static void tripTests() {
        onAtAt();
        offBelowAtLessDrop();
        betweenBoth();
        onceACrossing();
    }

    private static void stepTests() {
        oneMoreMostAtMost();
        oneLessZeroAtLeast();
        slopeOfZero();
        offIsOneLess();
    }

    private static void shareTests() {
        zeroIfOff();
        byTen();
        atLeastOne();
        atMostAllTogether();
        sharesGoDownwards();
        mostIfThatIsLess();
        greatestWeightFirst();
        lesserOfLikeOnes();
        roundAbout();
        nothingBound();
    }

    private static void deviceTests() {
        zeroWithout();
        heldAtZero();
        fanByOne();
        valveAtOnce();
        pumpUpAtOnceDownByOne();
        greatestOfAll();
    }

    private static void shutTests() {
        criticalOn();
        foreseenAboveZero();
        atOrMore();
        slopeAboveZero();
        eachDeviceAtItsMost();
        devicesOfThatZone();
        foretoldByTemp();
        criticalAheadOfForetold();
        staysUntilStarted();
        minuteIsOneMore();
    }

    private static void logTests() {
        eachWhat();
        minuteAheadOfItsBeingMore();
        latestForty();
        byTrips();
        notShutAgain();
        startedWithoutATrip();
    }

    /** Zone 0 is warmer by so much behind one minute; by a LEAK of 50 it stays so then, up to 249. */
    private static void warm(HeatGovernor g, int more) {
        g.load(0, more);
        g.minutes(1);
        g.load(0, 0);
    }

    /** A zone is colder by what a valve takes in one minute; the minute ahead of that it opens. */
    private static void chill(HeatGovernor g, int device, int state) {
        g.hold(device, state);
        g.minutes(1);
        g.hold(device, 0);
        g.minutes(1);
    }

    // ---- quotients

    /** Promise 6 (part 1): "Quotients go downwards (below 0, too)." ((HEAT less 200) by LEAK.) */
    private static void leakGoesDownwards() {
        // A heat, and what it is a minute later by a LEAK of 50.
        int[][] dues = {{201, 201}, {249, 249}, {250, 249}, {299, 298}};
        for (int[] due : dues) {
            HeatGovernor g = Check.told("zone 0 50;");
            warm(g, due[0] - 200);
            CHECK.row("above 200", new int[] {g.zone(0, 0), g.ahead(0, 1, 0)}, due);
        }
        String valves = "zone 0 50;device valve 0 1 1;device valve 0 2 25;device valve 0 3 17;";
        int[][] colder = {{0, 1, 199, 200}, {1, 2, 150, 151}, {2, 3, 149, 151}};
        for (int[] due : colder) {
            HeatGovernor g = Check.told(valves);
            chill(g, due[0], due[1]);
            CHECK.row("below 200", new int[] {g.zone(0, 0), g.ahead(0, 1, 0)}, due[2], due[3]);
        }
    }

    /** Promise 6 (part 1): "Quotients go downwards (below 0, too)." (What goes through a WALL.) */
    private static void wallGoesDownwards() {
        // From the colder to the warmer one: -1 by 50 is -1.
        CHECK.row("-1", behindWall("wall 1 0 50;", 1), 200, 201);
        CHECK.row("1", behindWall("wall 0 1 50;", 1), 201, 200);
        CHECK.row("49", behindWall("wall 0 1 50;", 49), 249, 200);
        // 250 leaks 1 itself.
        CHECK.row("50", behindWall("wall 0 1 50;", 50), 248, 201);
        CHECK.row("-50", behindWall("wall 1 0 50;", 50), 248, 201);
        CHECK.row("-51", behindWall("wall 1 0 50;", 51), 248, 202);
    }

    /** Zone 0 is warmer than zone 1 by so much; both a minute later. */
    private static int[] behindWall(String wall, int more) {
        HeatGovernor g = Check.told("zone 0 50;zone 0 50;" + wall);
        warm(g, more);
        g.minutes(1);
        return new int[] {g.zone(0, 0), g.zone(1, 0)};
    }

    /** Promise 6 (part 1): "Quotients go downwards (below 0, too)." ((READING less TEMP) by DEPTH.) */
    private static void slowGoesDownwards() {
        int[][] dues = {{3, 200}, {4, 201}, {7, 201}, {8, 202}};
        for (int[] due : dues) {
            HeatGovernor g = Check.told("zone 0 50 slow 4;");
            warm(g, due[0]);
            CHECK.same("slow, up by " + due[0], g.zone(0, 1), due[1]);
        }
        int[][] colder = {{1, 199}, {4, 199}, {5, 198}};
        for (int[] due : colder) {
            HeatGovernor g = Check.told("zone 0 50 slow 4;device valve 0 9 1;");
            chill(g, 0, due[0]);
            CHECK.same("slow, down by " + due[0], g.zone(0, 1), due[1]);
        }
    }

    /** Promise 6 (part 1): "Quotients go downwards (below 0, too)." (READINGS together, by DEPTH.) */
    private static void meanGoesDownwards() {
        int[][] dues = {{3, 200}, {4, 201}, {7, 201}, {8, 202}};
        for (int[] due : dues) {
            HeatGovernor g = Check.told("zone 0 50 mean 4;");
            warm(g, due[0]);
            CHECK.same("mean, " + due[0] + " more", g.zone(0, 1), due[1]);
        }
    }

    // ---- (a)

    /** Promise 6 (part 2): "(a) by HEATS as they are at its begin". */
    private static void heatsAtItsBegin() {
        HeatGovernor g = Check.told("zone 0 50;zone 0 50;zone 0 50;wall 0 1 1;wall 1 2 1;");
        warm(g, 40);
        g.minutes(1);
        // 40 go from 0 to 1; 1 was 200 at the begin, so nothing goes on to 2.
        CHECK.row("one wall a minute", new int[] {g.zone(0, 0), g.zone(1, 0), g.zone(2, 0)}, 200, 240, 200);
        g.minutes(1);
        CHECK.row("-40 back, and 40 on", new int[] {g.zone(0, 0), g.zone(1, 0), g.zone(2, 0)}, 240, 160, 240);
    }

    /** Promise 6 (part 2): "more by its LOAD (0, if it is SHUT)". */
    private static void loadOfAShutZone() {
        HeatGovernor g = Check.told("zone 10 50;trip 0 critical 220 0;");
        CHECK.row("with its LOAD, to the minute that SHUTS it", Check.seen(g, 4, () -> g.zone(0, 0)), 210, 220, 220, 220);
        CHECK.row("its LOAD is still told", new int[] {g.zone(0, 3), g.zone(0, 7)}, 10, 1);
    }

    /** Promise 6 (part 2): "it is held from 0 to 1500 then." (1500.) */
    private static void heldAtMost() {
        HeatGovernor g = Check.told("zone 99 50;");
        // At 1500 it leaks 26, so that it comes there by 73 a minute at least.
        g.minutes(20);
        CHECK.same("held", g.zone(0, 0), 1500);
        int[][] dues = {{25, 1499}, {26, 1500}, {27, 1500}, {98, 1500}};
        for (int[] due : dues) {
            g.load(0, due[0]);
            CHECK.same("1500 and " + due[0] + " less 26", g.ahead(0, 1, 0), due[1]);
        }
    }

    /** Promise 6 (part 2): "it is held from 0 to 1500 then." (0.) */
    private static void heldAtLeast() {
        // 199, 200, 201 and 470 of 200.
        int[][] dues = {{1, 8, 0, 0, 1}, {0, 8, 0, 0, 0}, {0, 8, 1, 0, 0}, {0, 8, 0, 9, 0}};
        for (int[] due : dues) {
            HeatGovernor g = Check.told("zone 0 50;device valve 0 8 25;device valve 0 1 1;device valve 0 9 30;");
            for (int d = 0; d < 3; d++) {
                g.hold(d, due[1 + d]);
            }
            g.minutes(1);
            g.load(0, due[0]);
            g.minutes(1);
            CHECK.same("least", g.zone(0, 0), due[4]);
        }
    }

    /** Promise 6 (part 2): "it is held from 0 to 1500 then." (Then: behind what goes through WALLS.) */
    private static void heldBehindTheWalls() {
        HeatGovernor g = Check.told("zone 99 50;zone 0 1;wall 0 1 50;");
        g.minutes(60);
        // Zone 1 by its LEAK of 1 is 200 and what comes through the wall: (1500 - 225) / 50 is 25.
        CHECK.row("both", new int[] {g.zone(0, 0), g.zone(1, 0)}, 1500, 225);
        int[][] dues = {{50, 1499}, {51, 1500}, {52, 1500}};
        for (int[] due : dues) {
            g.load(0, due[0]);
            CHECK.same("1500 and " + due[0] + " less 26 less 25", g.ahead(0, 1, 0), due[1]);
        }
    }

    /** Promise 6 (part 2): "less by STATE times COOL of each DEVICE at it" (a STATE of 0, and of MOST). */
    private static void coolsByStateTimesCool() {
        HeatGovernor g = Check.told("zone 0 50;zone 0 50;device valve 0 9 5;device valve 0 9 1;device valve 1 9 9;");
        g.minutes(1);
        CHECK.row("STATE 0", new int[] {g.zone(0, 10), g.zone(0, 0), g.zone(1, 10)}, 0, 200, 0);
        g.hold(0, 9);
        g.hold(1, 1);
        g.minutes(1);
        CHECK.row("MOST and 1", new int[] {g.zone(0, 10), g.zone(0, 0), g.zone(1, 10)}, 46, 200, 0);
        g.minutes(1);
        CHECK.row("a minute behind", new int[] {g.zone(0, 0), g.zone(1, 0)}, 154, 200);
    }

    // ---- (b)

    /** Promise 6 (part 2): "(READINGS ahead of all, and TEMP, are 200.)" */
    private static void readingsAheadOfAll() {
        String[] filters = {"", "mean 1", "mean 4", "median 1", "median 4", "slow 1", "slow 4"};
        int[] dues = {240, 240, 210, 240, 200, 240, 210};
        for (int i = 0; i < filters.length; i++) {
            HeatGovernor g = Check.told("zone 0 50 " + filters[i] + ";");
            CHECK.row("ahead of all", new int[] {g.zone(0, 1), g.zone(0, 2)}, 200, 0);
            warm(g, 40);
            CHECK.row("one reading: " + filters[i], new int[] {g.zone(0, 1), g.zone(0, 2)}, dues[i], dues[i] - 200);
        }
    }

    /** Promise 6 (part 2): "mean of the latest DEPTH of READINGS (together, by DEPTH)". */
    private static void meanOfTheLatest() {
        // One reading of 240, then 200 again by a LEAK of 1: it counts for as many minutes as it is deep.
        int[][] dues = {{240, 200, 200, 200, 200}, {220, 220, 200, 200, 200}, {213, 213, 213, 200, 200},
            {210, 210, 210, 210, 200}};
        for (int depth = 1; depth <= 4; depth++) {
            HeatGovernor g = Check.told("zone 40 1 mean " + depth + ";");
            int[] temps = new int[5];
            for (int i = 0; i < 5; i++) {
                g.minutes(1);
                g.load(0, 0);
                temps[i] = g.zone(0, 1);
            }
            CHECK.row("mean " + depth, temps, dues[depth - 1]);
        }
    }

    /** Promise 6 (part 2): "median of these (the one in the middle". */
    private static void medianInTheMiddle() {
        HeatGovernor one = Check.told("zone 40 50 median 1;");
        one.minutes(1);
        CHECK.same("of one", one.zone(0, 1), 240);
        // Of 200, 200, 240; of 200, 240, 240.
        HeatGovernor three = Check.told("zone 0 50 median 3;");
        warm(three, 40);
        CHECK.same("one of three", three.zone(0, 1), 200);
        three.minutes(1);
        CHECK.same("two of three", three.zone(0, 1), 240);
        // Of 240, 240, 231: the order in which they came is nothing.
        HeatGovernor falls = Check.told("zone 0 50 median 3;device valve 0 9 1;");
        warm(falls, 40);
        chill(falls, 0, 9);
        CHECK.row("down", new int[] {falls.zone(0, 0), falls.zone(0, 1)}, 231, 240);
    }

    /** Promise 6 (part 2): "of two in the middle the lesser one". */
    private static void lesserOfTwoInTheMiddle() {
        HeatGovernor two = Check.told("zone 0 50 median 2;device valve 0 9 1;");
        warm(two, 40);
        CHECK.same("200, 240", two.zone(0, 1), 200);
        two.minutes(1);
        CHECK.same("240, 240", two.zone(0, 1), 240);
        chill(two, 0, 9);
        CHECK.same("240, 231", two.zone(0, 1), 231);
        HeatGovernor four = Check.told("zone 0 50 median 4;");
        warm(four, 40);
        CHECK.same("200, 200, 200, 240", four.zone(0, 1), 200);
        four.minutes(1);
        CHECK.same("200, 200, 240, 240", four.zone(0, 1), 200);
        four.minutes(1);
        CHECK.same("200, 240, 240, 240", four.zone(0, 1), 240);
    }

    /** Promise 6 (part 2): "slow: TEMP and (READING less TEMP) by DEPTH." */
    private static void slowByDepth() {
        HeatGovernor one = Check.told("zone 40 50 slow 1;");
        one.minutes(1);
        CHECK.same("by 1", one.zone(0, 1), 240);
        HeatGovernor two = Check.told("zone 0 50 slow 2;");
        warm(two, 40);
        // 220, 230, 235, 237, 238, 239, and a difference of 1 by 2 is nothing.
        CHECK.row("by 2", Check.seen(two, 7, () -> two.zone(0, 1)), 230, 235, 237, 238, 239, 239, 239);
    }

    /** Promise 6 (part 2): "SLOPE: TEMP less what it was a MINUTE ago." */
    private static void slopeOfAMinute() {
        HeatGovernor g = Check.told("zone 0 50;device valve 0 9 1;");
        CHECK.same("at first", g.zone(0, 2), 0);
        g.load(0, 1);
        g.minutes(1);
        CHECK.same("1 up", g.zone(0, 2), 1);
        g.load(0, 0);
        CHECK.same("an ACT is no MINUTE", g.zone(0, 2), 1);
        g.minutes(1);
        CHECK.same("nothing", g.zone(0, 2), 0);
        chill(g, 0, 1);
        CHECK.same("1 down", g.zone(0, 2), -1);
        g.load(0, 40);
        g.minutes(2);
        // Of two minutes that go by at once: 240, 280.
        CHECK.row("of the last one", new int[] {g.zone(0, 1), g.zone(0, 2)}, 280, 40);
    }

    // ---- (c)

    /** Promise 7 (part 2): "OFF goes ON, if TEMP of its ZONE is AT or more". */
    private static void onAtAt() {
        HeatGovernor g = Check.told("zone 0 50;zone 99 50;trip 0 hot 229 0;trip 0 hot 230 0;trip 0 hot 231 0;");
        warm(g, 30);
        CHECK.row("230", new int[] {g.trip(0, 4), g.trip(1, 4), g.trip(2, 4), g.count(8)}, 1, 1, 0, 3);
        warm(g, 1);
        CHECK.row("231", new int[] {g.trip(2, 4), g.count(8)}, 1, 7);
    }

    /** Promise 7 (part 2): "ON goes OFF, if it is below AT less DROP." */
    private static void offBelowAtLessDrop() {
        HeatGovernor g = Check.told("zone 0 50;trip 0 hot 240 0;trip 0 hot 240 8;trip 0 hot 240 9;trip 0 hot 240 10;"
                + "device valve 0 9 1;");
        warm(g, 40);
        g.minutes(1);
        CHECK.same("240: AT less a DROP of 0", g.count(8), 15);
        chill(g, 0, 9);
        CHECK.row("231", new int[] {g.zone(0, 1), g.count(8)}, 231, 8 + 4);
        chill(g, 0, 1);
        CHECK.row("230", new int[] {g.zone(0, 1), g.count(8)}, 230, 8);
        chill(g, 0, 1);
        CHECK.row("229", new int[] {g.zone(0, 1), g.count(8)}, 229, 0);
    }

    /** Promise 7 (part 2): "(c) Each TRIP: OFF goes ON, .. ON goes OFF" (between the two it stays as it is). */
    private static void betweenBoth() {
        HeatGovernor g = Check.told("zone 0 50;trip 0 hot 240 5;device valve 0 9 1;");
        warm(g, 39);
        CHECK.same("239 from below", g.trip(0, 4), 0);
        warm(g, 1);
        CHECK.same("240", g.trip(0, 4), 1);
        chill(g, 0, 5);
        CHECK.row("235 from above", new int[] {g.zone(0, 1), g.trip(0, 4)}, 235, 1);
        chill(g, 0, 1);
        CHECK.row("234", new int[] {g.zone(0, 1), g.trip(0, 4)}, 234, 0);
        warm(g, 5);
        CHECK.row("239 from below, again", new int[] {g.zone(0, 1), g.trip(0, 4)}, 239, 0);
    }

    /** Promise 7 (part 3): "CROSSED of a TRIP: how often it went ON since the TEXT (what is UNDONE doesn't count)." */
    private static void onceACrossing() {
        HeatGovernor g = Check.told("zone 0 50;trip 0 hot 240 5;device valve 0 9 1;");
        CHECK.same("never", g.trip(0, 5), 0);
        warm(g, 40);
        g.minutes(60);
        chill(g, 0, 5);
        warm(g, 5);
        CHECK.row("235 is no crossing", new int[] {g.zone(0, 1), g.trip(0, 5), g.count(13)}, 240, 1, 1);
        chill(g, 0, 6);
        CHECK.row("OFF is none", new int[] {g.trip(0, 4), g.trip(0, 5), g.count(13)}, 0, 1, 2);
        warm(g, 6);
        CHECK.row("ON again", new int[] {g.trip(0, 4), g.trip(0, 5), g.count(13)}, 1, 2, 3);
        g.undo();
        g.undo();
        CHECK.same("what is UNDONE", g.trip(0, 5), 1);
        Check.plan(g, "zone 0 50;trip 0 hot 240 5;");
        CHECK.same("since the TEXT", g.trip(0, 5), 0);
    }

    // ---- (d) step

    // A valve of MOST 2 that is bound but held shut, and one that chills by 1.
    private static final String STEP = "zone 0 50;trip 0 step 200 0;device valve 0 2 1;device valve 0 9 1;bind 0 0 1;";

    private static HeatGovernor stepped() {
        HeatGovernor g = Check.told(STEP);
        g.hold(0, 0);
        return g;
    }

    /** Promise 9 (part 2): "step: ON, SLOPE above 0: one more than what it WANTED by it ahead (MOST at most)". */
    private static void oneMoreMostAtMost() {
        HeatGovernor g = stepped();
        g.load(0, 1);
        CHECK.row("1 up in each minute", Check.seen(g, 4, () -> g.bind(0, 0, 1)), 1, 2, 2, 2);
        CHECK.row("MOST", new int[] {g.device(0, 2), g.device(0, 6), g.device(0, 4)}, 2, 2, 0);
    }

    /** Promise 9 (part 2): "ON, SLOPE below 0, or OFF: one less (0 at least)". */
    private static void oneLessZeroAtLeast() {
        HeatGovernor g = stepped();
        warm(g, 9);
        warm(g, 9);
        g.hold(1, 1);
        g.minutes(1);
        CHECK.row("218, not yet less", new int[] {g.zone(0, 1), g.bind(0, 0, 1)}, 218, 2);
        CHECK.row("1 down in each minute", Check.seen(g, 4, () -> g.bind(0, 0, 1)), 1, 0, 0, 0);
        CHECK.row("still ON", new int[] {g.trip(0, 4), g.zone(0, 1)}, 1, 214);
    }

    /** Promise 9 (part 2): "else as ahead." (ON, and a SLOPE of 0.) */
    private static void slopeOfZero() {
        HeatGovernor g = stepped();
        g.minutes(1);
        CHECK.row("0 stays", new int[] {g.trip(0, 4), g.zone(0, 2), g.bind(0, 0, 1)}, 1, 0, 0);
        warm(g, 1);
        g.minutes(9);
        CHECK.row("1 stays", new int[] {g.trip(0, 4), g.zone(0, 2), g.bind(0, 0, 1)}, 1, 0, 1);
        warm(g, 1);
        g.minutes(9);
        CHECK.row("2 stays", new int[] {g.trip(0, 4), g.zone(0, 2), g.bind(0, 0, 1)}, 1, 0, 2);
    }

    /** Promise 9 (part 2): "or OFF: one less" (while SLOPE is above 0, and while it is 0, too). */
    private static void offIsOneLess() {
        HeatGovernor g = Check.told("zone 0 50;trip 0 step 210 0;device valve 0 3 1;device valve 0 9 1;bind 0 0 1;");
        g.hold(0, 0);
        warm(g, 10);
        warm(g, 1);
        warm(g, 1);
        CHECK.row("3 at 212", new int[] {g.zone(0, 1), g.bind(0, 0, 1)}, 212, 3);
        chill(g, 1, 9);
        CHECK.row("OFF at 203", new int[] {g.zone(0, 1), g.trip(0, 4), g.bind(0, 0, 1)}, 203, 0, 2);
        warm(g, 1);
        CHECK.row("OFF, SLOPE 1", new int[] {g.zone(0, 2), g.trip(0, 4), g.bind(0, 0, 1)}, 1, 0, 1);
        g.minutes(1);
        CHECK.row("OFF, SLOPE 0", new int[] {g.zone(0, 2), g.trip(0, 4), g.bind(0, 0, 1)}, 0, 0, 0);
    }

    // ---- (d) share

    // MOST of both together is 3; they are held shut, and the third one chills.
    private static final String SHARE = "zone 0 50;trip 0 share 210 5;device valve 0 2 1;device valve 0 1 1;"
            + "device valve 0 9 1;bind 0 0 1;bind 0 1 1;";

    private static HeatGovernor shared(int heat) {
        HeatGovernor g = Check.told(SHARE);
        g.hold(0, 0);
        g.hold(1, 0);
        warm(g, heat - 200);
        return g;
    }

    /** Promise 7: "6 ASKED (0: not a share, or OFF)"; promise 9 (part 2): "share: 0, if it is OFF". */
    private static void zeroIfOff() {
        HeatGovernor below = shared(209);
        CHECK.row("209", new int[] {below.trip(0, 4), below.trip(0, 6), below.bind(0, 0, 1), below.bind(0, 1, 1)}, 0, 0, 0, 0);
        HeatGovernor at = shared(210);
        CHECK.row("210", new int[] {at.trip(0, 4), at.trip(0, 6), at.bind(0, 0, 1), at.bind(0, 1, 1)}, 1, 1, 1, 0);
        chill(at, 2, 6);
        CHECK.row("204", new int[] {at.trip(0, 4), at.trip(0, 6), at.bind(0, 0, 1), at.bind(0, 1, 1)}, 0, 0, 0, 0);
        HeatGovernor sorts = Check.told("zone 50 50;trip 0 step 200 0;trip 0 hot 200 0;trip 0 critical 200 0;");
        sorts.minutes(1);
        CHECK.row("not a share", new int[] {sorts.count(8), sorts.trip(0, 6), sorts.trip(1, 6), sorts.trip(2, 6)}, 7, 0, 0, 0);
    }

    /** Promise 7 (part 2): "ASKED of that TRIP is (TEMP less AT) by 10, and 1". */
    private static void byTen() {
        int[][] dues = {{210, 1}, {219, 1}, {220, 2}, {229, 2}, {230, 3}, {239, 3}};
        for (int[] due : dues) {
            CHECK.same("asked at " + due[0], shared(due[0]).trip(0, 6), due[1]);
        }
    }

    /** Promise 7 (part 2): "at least 1" (ASKED, where TEMP is below AT). */
    private static void atLeastOne() {
        HeatGovernor g = shared(210);
        chill(g, 2, 1);
        CHECK.row("209", new int[] {g.zone(0, 1), g.trip(0, 6), g.bind(0, 0, 1), g.bind(0, 1, 1)}, 209, 1, 1, 0);
        chill(g, 2, 4);
        CHECK.row("205", new int[] {g.zone(0, 1), g.trip(0, 6), g.bind(0, 0, 1), g.bind(0, 1, 1)}, 205, 1, 1, 0);
        // Far below AT: -49 by 10, and 1, would be -4.
        HeatGovernor far = Check.told("zone 0 50;trip 0 share 249 49;device valve 0 5 1;device valve 0 7 7;bind 0 0 1;");
        far.hold(0, 0);
        warm(far, 49);
        CHECK.row("249", new int[] {far.zone(0, 1), far.trip(0, 6)}, 249, 1);
        chill(far, 1, 7);
        CHECK.row("200", new int[] {far.zone(0, 1), far.trip(0, 4), far.trip(0, 6), far.bind(0, 0, 1)}, 200, 1, 1, 1);
    }

    /** Promise 7 (part 2): "at most MOST of all its DEVICES together". */
    private static void atMostAllTogether() {
        int[][] dues = {{229, 2, 1, 1}, {230, 3, 2, 1}, {240, 3, 2, 1}, {299, 3, 2, 1}};
        for (int[] due : dues) {
            HeatGovernor g = shared(due[0]);
            CHECK.row("at " + due[0], new int[] {g.trip(0, 6), g.bind(0, 0, 1), g.bind(0, 1, 1)}, due[1], due[2], due[3]);
        }
    }

    /** Zone 0 at 200 and ten times ASKED less 1, by a share at 200 of devices that are held shut. */
    private static int[] dealt(int asked, String devices, String binds, int count) {
        HeatGovernor g = Check.told("zone 0 50;trip 0 share 200 0;" + devices + binds);
        for (int d = 0; d < count; d++) {
            g.hold(d, 0);
        }
        if (asked > 1) {
            warm(g, 10 * (asked - 1));
        } else {
            g.minutes(1);
        }
        int[] wanted = new int[count + 1];
        wanted[0] = g.trip(0, 6);
        for (int d = 0; d < count; d++) {
            wanted[1 + d] = g.bind(0, d, 1);
        }
        return wanted;
    }

    /** Promise 9 (part 2): "each DEVICE has its SHARE: ASKED times WEIGHT by all WEIGHTS". */
    private static void sharesGoDownwards() {
        String devices = "device valve 0 9 1;device valve 0 9 1;";
        // Of 10: 9 and 1; of 9: 81 and 9 by 10 are 8 and 0, and what is left goes to the first.
        CHECK.row("no rest", dealt(10, devices, "bind 0 0 9;bind 0 1 1;", 2), 10, 9, 1);
        CHECK.row("a rest of 1", dealt(9, devices, "bind 0 0 9;bind 0 1 1;", 2), 9, 9, 0);
        CHECK.row("a rest of 1, again", dealt(5, devices, "bind 0 0 2;bind 0 1 1;", 2), 5, 4, 1);
        CHECK.row("no rest, again", dealt(6, devices, "bind 0 0 2;bind 0 1 1;", 2), 6, 4, 2);
    }

    /** Promise 9 (part 2): "(its MOST, if that is less)". */
    private static void mostIfThatIsLess() {
        // Of 4 to 6 by 2 and 1 the first one's SHARE is 2, 3, 4; its MOST is 3.
        String devices = "device valve 0 3 1;device valve 0 9 1;";
        CHECK.row("less than MOST, and the rest", dealt(4, devices, "bind 0 0 2;bind 0 1 1;", 2), 4, 3, 1);
        CHECK.row("MOST", dealt(5, devices, "bind 0 0 2;bind 0 1 1;", 2), 5, 3, 2);
        CHECK.row("MOST is less", dealt(6, devices, "bind 0 0 2;bind 0 1 1;", 2), 6, 3, 3);
    }

    /** Promise 9 (part 2): "what is left goes one by one to those with fewer than MOST, by WEIGHT, the greatest first". */
    private static void greatestWeightFirst() {
        String devices = "device valve 0 9 1;device valve 0 9 1;device valve 0 9 1;";
        String binds = "bind 0 0 1;bind 0 1 3;bind 0 2 2;";
        // Of 1: nothing but what is left; of 5: 0, 2, 1 and two more.
        CHECK.row("one", dealt(1, devices, binds, 3), 1, 0, 1, 0);
        CHECK.row("two", dealt(2, devices, binds, 3), 2, 0, 2, 0);
        CHECK.row("five", dealt(5, devices, binds, 3), 5, 0, 3, 2);
        CHECK.row("six", dealt(6, devices, binds, 3), 6, 1, 3, 2);
        String full = "device valve 0 9 1;device valve 0 1 1;device valve 0 9 1;";
        CHECK.row("the greatest has its MOST", dealt(2, full, binds, 3), 2, 0, 1, 1);
    }

    /** Promise 9 (part 2): "(of like ones the lesser DEVICE)". */
    private static void lesserOfLikeOnes() {
        String devices = "device valve 0 9 1;device valve 0 9 1;device valve 0 9 1;";
        // Bound in another order than they are told.
        String binds = "bind 0 2 5;bind 0 0 5;bind 0 1 5;";
        CHECK.row("one", dealt(1, devices, binds, 3), 1, 1, 0, 0);
        CHECK.row("two", dealt(2, devices, binds, 3), 2, 1, 1, 0);
        CHECK.row("three", dealt(3, devices, binds, 3), 3, 1, 1, 1);
        CHECK.row("four", dealt(4, devices, binds, 3), 4, 2, 1, 1);
        CHECK.row("like ones ahead of a lesser one", dealt(2, devices, "bind 0 2 5;bind 0 1 5;bind 0 0 4;", 3), 2, 0, 1, 1);
    }

    /** Promise 9 (part 2): "round about until nothing is left. (SHARES come to ASKED.)" */
    private static void roundAbout() {
        // 9 by 10 parts of 5 to 10 go to a device with a MOST of 1; the other one takes the rest, one a round.
        String devices = "device valve 0 1 1;device valve 0 9 1;";
        for (int asked = 1; asked <= 10; asked++) {
            CHECK.row("of " + asked, dealt(asked, devices, "bind 0 0 9;bind 0 1 1;", 2), asked, 1, asked - 1);
        }
        // Six of one weight, five of MOST 1: the last one takes 5 of 10.
        String six = "device valve 0 1 1;".repeat(5) + "device valve 0 5 1;";
        String binds = "bind 0 0 1;bind 0 1 1;bind 0 2 1;bind 0 3 1;bind 0 4 1;bind 0 5 1;";
        CHECK.row("all there is", dealt(10, six, binds, 6), 10, 1, 1, 1, 1, 1, 5);
        CHECK.row("one less", dealt(9, six, binds, 6), 9, 1, 1, 1, 1, 1, 4);
        CHECK.row("five", dealt(5, six, binds, 6), 5, 1, 1, 1, 1, 1, 0);
        // Of 11 by 9, 9 and 1 the last one's SHARE is 0, but all 9 that are left are for it: as many rounds as may be.
        HeatGovernor g = Check.told("zone 0 50;trip 0 share 200 0;device valve 0 1 1;device valve 0 1 1;device valve 0 9 1;"
                + "bind 0 0 9;bind 0 1 9;bind 0 2 1;");
        for (int d = 0; d < 3; d++) {
            g.hold(d, 0);
        }
        warm(g, 99);
        warm(g, 3);
        CHECK.row("nine rounds", new int[] {g.trip(0, 6), g.bind(0, 0, 1), g.bind(0, 1, 1), g.bind(0, 2, 1)}, 11, 1, 1, 9);
    }

    /** Promise 7: "7 how many DEVICES are bound to it" (none; "at most MOST of all its DEVICES together" is 0 then). */
    private static void nothingBound() {
        HeatGovernor g = Check.told("zone 50 50;trip 0 share 200 0;trip 0 step 200 0;device valve 0 9 1;");
        g.minutes(1);
        CHECK.row("nothing bound", new int[] {g.trip(0, 4), g.trip(0, 6), g.trip(0, 7), g.trip(1, 7), g.device(0, 4)},
                1, 0, 0, 0, 0);
    }

    // ---- (e)

    /** Promise 8 (part 2): "The STATE of a DEVICE goes to the greatest WANTED of all (0 without". */
    private static void zeroWithout() {
        HeatGovernor g = Check.told("zone 99 50;trip 0 share 200 0;device valve 0 9 1;device valve 0 9 1;bind 0 1 1;");
        g.hold(0, 9);
        g.minutes(1);
        CHECK.row("held, bound", new int[] {g.device(0, 4), g.device(0, 6), g.device(1, 4), g.device(1, 6)}, 9, 0, 9, 9);
        g.hold(0, -1);
        g.minutes(1);
        CHECK.row("no more held, not bound", new int[] {g.device(0, 4), g.device(0, 6)}, 0, 0);
    }

    /** Promise 8 (part 2): "what it is HELD at, if it is" (at 0, too, which is not the same as not HELD). */
    private static void heldAtZero() {
        HeatGovernor g = Check.told("zone 99 50;trip 0 share 200 0;device valve 0 9 1;bind 0 0 1;");
        g.hold(0, 0);
        g.minutes(1);
        CHECK.row("held at 0", new int[] {g.device(0, 4), g.device(0, 5), g.device(0, 6)}, 0, 0, 9);
        g.hold(0, -1);
        CHECK.row("it moves in a minute", new int[] {g.device(0, 4), g.device(0, 5), g.device(0, 6)}, 0, -1, 9);
        g.minutes(1);
        CHECK.row("not held", new int[] {g.device(0, 4), g.device(0, 5), g.device(0, 6)}, 9, -1, 9);
        g.hold(0, 9);
        g.minutes(1);
        CHECK.row("held at MOST", new int[] {g.device(0, 4), g.device(0, 5)}, 9, 9);
    }

    /** STATES in three minutes from a STATE, HELD at another one. */
    private static int[] moves(String make, int from, int to) {
        HeatGovernor g = Check.told("zone 0 50;device " + make + " 0 9 1;");
        g.hold(0, from);
        g.minutes(9);
        CHECK.same("from", g.device(0, 4), from);
        g.hold(0, to);
        return Check.seen(g, 3, () -> g.device(0, 4));
    }

    /** Promise 8 (part 2): "a fan by 1 a MINUTE". */
    private static void fanByOne() {
        CHECK.row("up to MOST", moves("fan", 7, 9), 8, 9, 9);
        CHECK.row("down to 0", moves("fan", 2, 0), 1, 0, 0);
        CHECK.row("up by 9", moves("fan", 0, 9), 1, 2, 3);
        CHECK.row("down by 9", moves("fan", 9, 0), 8, 7, 6);
        CHECK.row("by 1", moves("fan", 4, 5), 5, 5, 5);
        CHECK.row("by nothing", moves("fan", 4, 4), 4, 4, 4);
    }

    /** Promise 8 (part 2): "a valve at once". */
    private static void valveAtOnce() {
        CHECK.row("up by 9", moves("valve", 0, 9), 9, 9, 9);
        CHECK.row("down by 9", moves("valve", 9, 0), 0, 0, 0);
        CHECK.row("by nothing", moves("valve", 4, 4), 4, 4, 4);
    }

    /** Promise 8 (part 2): "a pump up at once, down by 1." */
    private static void pumpUpAtOnceDownByOne() {
        CHECK.row("up by 9", moves("pump", 0, 9), 9, 9, 9);
        CHECK.row("down by 9", moves("pump", 9, 0), 8, 7, 6);
        CHECK.row("down to 0", moves("pump", 2, 0), 1, 0, 0);
        CHECK.row("down by 1", moves("pump", 5, 4), 4, 4, 4);
        CHECK.row("by nothing", moves("pump", 4, 4), 4, 4, 4);
    }

    /** Promise 8: "6 the greatest WANTED." (Of like ones, of one that is 0, of several.) */
    private static void greatestOfAll() {
        HeatGovernor g = Check.told("zone 30 50;trip 0 share 200 0;trip 0 share 220 0;trip 0 share 231 0;device valve 0 9 1;"
                + "bind 0 0 1;bind 1 0 1;bind 2 0 1;");
        g.minutes(1);
        CHECK.row("4, 2, 0", new int[] {g.bind(0, 0, 1), g.bind(1, 0, 1), g.bind(2, 0, 1), g.device(0, 6), g.device(0, 4)},
                4, 2, 0, 4, 4);
    }

    // ---- (f)

    /** Promise 6 (part 2): "(f) A critical TRIP that is ON SHUTS its ZONE (WHY 1)." */
    private static void criticalOn() {
        HeatGovernor g = Check.told("zone 0 50;zone 50 50;trip 0 critical 230 0;trip 1 hot 200 0;trip 0 hot 200 0;");
        warm(g, 29);
        CHECK.row("229", new int[] {g.zone(0, 7), g.zone(0, 8), g.count(7)}, 0, 0, 0);
        warm(g, 1);
        CHECK.row("230", new int[] {g.zone(0, 7), g.zone(0, 8), g.count(7)}, 1, 1, 1);
        CHECK.row("no critical TRIP", new int[] {g.zone(1, 7), g.zone(1, 8)}, 0, 0);
    }

    private static final String FORETOLD = "zone 0 50;trip 0 critical 220 0;";

    /** Promise 6 (part 2): "Else, if FORESEEN is above 0". */
    private static void foreseenAboveZero() {
        HeatGovernor without = Check.told(FORETOLD);
        warm(without, 19);
        CHECK.row("0", new int[] {without.zone(0, 7), without.zone(0, 8)}, 0, 0);
        HeatGovernor one = Check.told(FORETOLD + "foreseen 1;");
        warm(one, 19);
        CHECK.row("1", new int[] {one.zone(0, 7), one.zone(0, 8)}, 1, 2);
    }

    /** Promise 6 (part 2): "TEMP and SLOPE times FORESEEN are AT or more". */
    private static void atOrMore() {
        // 209 and 9 are 218, 210 and 10 are 220.
        CHECK.row("by 1", new int[] {foretold(1, 9), foretold(1, 10)}, 0, 2);
        // 206 and 6 times 2 are 218, 207 and 7 times 2 are 221.
        CHECK.row("by 2", new int[] {foretold(2, 6), foretold(2, 7)}, 0, 2);
        // 201 and 1 times 9 are 210, 202 and 2 times 9 are 220.
        CHECK.row("by 9", new int[] {foretold(9, 1), foretold(9, 2)}, 0, 2);
        HeatGovernor more = Check.told("zone 0 50;trip 0 critical 221 0;foreseen 9;");
        warm(more, 2);
        CHECK.same("one less than AT", more.zone(0, 8), 0);
    }

    private static int foretold(int foreseen, int more) {
        HeatGovernor g = Check.told(FORETOLD + "foreseen " + foreseen + ";");
        warm(g, more);
        return g.zone(0, 8);
    }

    /** Promise 6 (part 2): "SLOPE above 0". */
    private static void slopeAboveZero() {
        HeatGovernor g = Check.told(FORETOLD + "device valve 0 9 1;");
        warm(g, 18);
        g.hold(0, 9);
        g.foresee(9);
        g.minutes(1);
        CHECK.row("SLOPE 0 at 218, each DEVICE at its MOST", new int[] {g.zone(0, 2), g.device(0, 4), g.zone(0, 7)}, 0, 9, 0);
        g.load(0, 8);
        g.minutes(1);
        CHECK.row("SLOPE -1 at 217", new int[] {g.zone(0, 1), g.zone(0, 2), g.zone(0, 7)}, 217, -1, 0);
        g.load(0, 10);
        g.minutes(1);
        CHECK.row("SLOPE 1 at 218", new int[] {g.zone(0, 1), g.zone(0, 2), g.zone(0, 8)}, 218, 1, 2);
    }

    /** Promise 6 (part 2): "each DEVICE at that ZONE at its MOST". */
    private static void eachDeviceAtItsMost() {
        String text = "zone 10 50;trip 0 critical 260 0;device valve 0 2 1;device valve 0 3 1;foreseen 9;";
        int[][] states = {{0, 0, 0}, {2, 2, 0}, {1, 3, 0}, {2, 0, 0}, {2, 3, 2}};
        for (int[] due : states) {
            HeatGovernor g = Check.told(text);
            g.hold(0, due[0]);
            g.hold(1, due[1]);
            g.minutes(1);
            CHECK.same("STATES " + due[0] + ", " + due[1], g.zone(0, 8), due[2]);
        }
        // A fan comes to its MOST in the second minute: behind (e) of that.
        HeatGovernor fan = Check.told("zone 10 50;trip 0 critical 260 0;device fan 0 2 1;foreseen 9;");
        fan.hold(0, 2);
        CHECK.row("as it is behind (e)", Check.seen(fan, 2, () -> fan.zone(0, 8)), 0, 2);
    }

    /** Promise 6 (part 2): "each DEVICE at that ZONE at its MOST" (none at it; one at another ZONE). */
    private static void devicesOfThatZone() {
        HeatGovernor none = Check.told("zone 10 50;trip 0 critical 260 0;foreseen 9;");
        none.minutes(1);
        CHECK.same("without any", none.zone(0, 8), 2);
        HeatGovernor other = Check.told("zone 10 50;zone 0 50;trip 0 critical 260 0;device valve 1 9 1;foreseen 9;");
        other.minutes(1);
        CHECK.row("another ZONE's is not at its MOST", new int[] {other.zone(0, 8), other.device(0, 4)}, 2, 0);
    }

    /** Promise 6 (part 2): "TEMP and SLOPE times FORESEEN" (by the FILTER, not by HEAT). */
    private static void foretoldByTemp() {
        // HEAT 210, TEMP 205, SLOPE 5.
        HeatGovernor at = Check.told("zone 10 50 mean 2;trip 0 critical 210 0;foreseen 1;");
        at.minutes(1);
        CHECK.row("210", new int[] {at.zone(0, 0), at.zone(0, 1), at.zone(0, 8)}, 210, 205, 2);
        HeatGovernor more = Check.told("zone 10 50 mean 2;trip 0 critical 211 0;foreseen 1;");
        more.minutes(1);
        CHECK.row("211", new int[] {more.zone(0, 0), more.zone(0, 1), more.zone(0, 8)}, 210, 205, 0);
    }

    /** Promise 6 (part 2): "A critical TRIP that is ON SHUTS its ZONE (WHY 1). Else, .. (WHY 2)." */
    private static void criticalAheadOfForetold() {
        HeatGovernor g = Check.told(FORETOLD + "foreseen 9;");
        warm(g, 20);
        CHECK.row("both at once", new int[] {g.zone(0, 8), g.log(0, 1), g.count(13)}, 1, 3, 2);
        HeatGovernor soon = Check.told(FORETOLD + "foreseen 9;");
        warm(soon, 19);
        CHECK.row("a HEAT less", new int[] {soon.zone(0, 8), soon.log(0, 1), soon.count(13)}, 2, 4, 1);
    }

    /** Promise 6 (part 2): "What is SHUT stays so until it is STARTED." */
    private static void staysUntilStarted() {
        HeatGovernor g = Check.told("zone 0 50;trip 0 critical 220 10;device valve 0 9 1;");
        warm(g, 20);
        chill(g, 0, 9);
        CHECK.row("211: ON", new int[] {g.zone(0, 1), g.trip(0, 4), g.zone(0, 7), g.start(0)}, 211, 1, 1, -1);
        chill(g, 0, 1);
        CHECK.row("210: ON", new int[] {g.zone(0, 1), g.trip(0, 4), g.zone(0, 7), g.start(0)}, 210, 1, 1, -1);
        chill(g, 0, 1);
        CHECK.row("209: OFF, SHUT", new int[] {g.zone(0, 1), g.trip(0, 4), g.zone(0, 7), g.zone(0, 8)}, 209, 0, 1, 1);
        g.minutes(60);
        CHECK.row("and stays so", new int[] {g.zone(0, 7), g.ahead(0, 200, 2)}, 1, 1);
        CHECK.row("until it is STARTED", new int[] {g.start(0), g.zone(0, 7), g.zone(0, 8)}, 209, 0, 0);
    }

    /** Promise 5 (part 2): "MINUTE is 1 more." */
    private static void minuteIsOneMore() {
        HeatGovernor g = new HeatGovernor();
        CHECK.row("without a ZONE, too", new int[] {g.minutes(1), g.count(5), g.minutes(60), g.count(5)}, 1, 1, 61, 61);
    }

    // ---- THE LOG

    /** Promise 10 (part 2): "WHAT: 1 a TRIP went ON, 2 OFF, 3 a ZONE was SHUT by WHY 1, 4 by WHY 2, 5 STARTED". */
    private static void eachWhat() {
        // Zone 0 is foretold at 219 and STARTED; at 220 it is critical, and by a LEAK of 1 it is 200 then.
        HeatGovernor g = Check.told("zone 19 1;trip 0 critical 220 0;foreseen 1;");
        g.minutes(1);
        g.start(0);
        g.load(0, 20);
        g.minutes(2);
        int[][] dues = {{2, 2, 0, 0}, {1, 3, 0, 0}, {1, 1, 0, 0}, {1, 5, 0, -1}, {0, 4, 0, 0}};
        CHECK.same("rows", g.count(13), 5);
        for (int ago = 0; ago < 5; ago++) {
            CHECK.row("row " + ago, new int[] {g.log(ago, 0), g.log(ago, 1), g.log(ago, 2), g.log(ago, 3)}, dues[ago]);
        }
    }

    /** Promise 10 (part 2): "MINUTE (ahead of its being more)". */
    private static void minuteAheadOfItsBeingMore() {
        HeatGovernor g = Check.told("zone 30 50;trip 0 hot 200 0;trip 0 hot 230 0;trip 0 hot 260 0;");
        g.minutes(2);
        CHECK.row("0, 0, 1", new int[] {g.count(13), g.log(2, 0), g.log(1, 0), g.log(0, 0), g.count(5)}, 3, 0, 0, 1, 2);
    }

    /** Promise 10 (part 2): "THE LOG (the latest 40)". */
    private static void latestForty() {
        // TEMPS 230, 240, 230, 240 ..: a row in each minute, the first one of trip 0.
        HeatGovernor g = Check.told("zone 30 50;trip 0 step 230 0;device valve 0 9 20;bind 0 0 1;trip 0 hot 235 0;");
        g.minutes(39);
        CHECK.row("39", new int[] {g.count(13), g.log(38, 0), g.log(38, 3)}, 39, 0, 0);
        CHECK.noSuch("not the 40th", () -> g.log(39, 0));
        g.minutes(1);
        CHECK.row("40", new int[] {g.count(13), g.log(0, 0), g.log(39, 0), g.log(39, 3)}, 40, 39, 0, 0);
        CHECK.noSuch("not the 41st", () -> g.log(40, 0));
        g.minutes(1);
        CHECK.row("41: the first one is gone", new int[] {g.count(13), g.log(0, 0), g.log(39, 0), g.log(39, 3)}, 40, 40, 1, 1);
        CHECK.noSuch("nor is it the 41st", () -> g.log(40, 0));
        g.minutes(60);
        for (int ago = 0; ago < 40; ago++) {
            // ON in odd MINUTES, OFF in even ones.
            CHECK.row("row " + ago, new int[] {g.log(ago, 0), g.log(ago, 1), g.log(ago, 2), g.log(ago, 3)},
                    100 - ago, ago % 2 == 0 ? 2 : 1, 0, 1);
        }
    }

    /** Promise 10 (part 2): "(In (c), (f) by TRIPS". */
    private static void byTrips() {
        HeatGovernor g = Check.told("zone 50 50;zone 50 50;trip 1 critical 250 0;trip 1 hot 250 0;trip 0 critical 250 0;");
        g.minutes(1);
        int[][] dues = {{0, 3, 0, 2}, {0, 3, 1, 0}, {0, 1, 0, 2}, {0, 1, 1, 1}, {0, 1, 1, 0}};
        CHECK.same("rows", g.count(13), 5);
        for (int ago = 0; ago < 5; ago++) {
            CHECK.row("row " + ago, new int[] {g.log(ago, 0), g.log(ago, 1), g.log(ago, 2), g.log(ago, 3)}, dues[ago]);
        }
    }

    /** Promise 10 (part 2): "a ZONE that is SHUT is not SHUT again.)" */
    private static void notShutAgain() {
        HeatGovernor on = Check.told(FORETOLD);
        warm(on, 20);
        on.minutes(60);
        CHECK.row("ON for long: one row", new int[] {on.trip(0, 4), on.count(13), on.log(0, 1), on.log(0, 0)}, 1, 2, 3, 0);
        // Foretold at 210; what the wall brings makes it critical.
        HeatGovernor later = Check.told("zone 10 50;zone 99 50;wall 1 0 9;trip 0 critical 230 0;foreseen 2;");
        later.minutes(1);
        CHECK.row("foretold", new int[] {later.zone(0, 1), later.zone(0, 8), later.count(13)}, 210, 2, 1);
        later.minutes(9);
        CHECK.row("critical then", new int[] {later.trip(0, 4), later.zone(0, 8), later.count(13), later.log(0, 1)}, 1, 2, 2, 1);
    }

    /** Promise 10: "the TRIP (3; NONE)" (part 2: "5 STARTED; the ZONE, the TRIP (of 5 none)"). */
    private static void startedWithoutATrip() {
        HeatGovernor g = Check.told("zone 0 50;zone 0 50;trip 1 hot 200 0;trip 0 critical 220 0;foreseen 1;");
        warm(g, 19);
        CHECK.row("SHUT by TRIP 1", new int[] {g.log(0, 0), g.log(0, 1), g.log(0, 2), g.log(0, 3)}, 0, 4, 0, 1);
        g.start(0);
        CHECK.row("STARTED", new int[] {g.log(0, 0), g.log(0, 1), g.log(0, 2), g.log(0, 3)}, 1, 5, 0, -1);
        CHECK.same("the row ahead", g.log(1, 1), 4);
    }
}
