/**
 * The edges of what would be: each sentence of the document's part 3 and of promises 11 (ahead), 12 (bears),
 * 13 (flips), 24 (years) and of count's FIRST, NEEDED, AGAIN that names a boundary case, with the calls beside it.
 * A remark tells the promise and the sentence.
 */
public final class EdgeAheadTest {
    private static final Check CHECK = new Check();
    // TEMPS 230, 240, 230, 240 ..
    private static final String SWINGS = "zone 30 50;trip 0 step 230 0;device valve 0 9 20;bind 0 0 1;trip 0 hot 235 0;";

    public static void main(String[] args) {
        aheadTests();
        firstTests();
        neededTests();
        againTests();
        bearsTests();
        flipsTests();
        yearsTests();
        CHECK.end();
    }

    private static void aheadTests() {
        aheadMinutes();
        aheadByNothing();
        aheadWhats();
        aheadShut();
    }

    private static void firstTests() {
        firstIsOne();
        firstIsTwoHundred();
        someZoneMore();
        whichIsTheLeast();
    }

    private static void neededTests() {
        neededOfLikeOnes();
        neededIsNone();
        neededWithoutAFirst();
        coolBeingZero();
    }

    private static void againTests() {
        againIsOne();
        againIsTwoHundred();
        againIsTwoHundredAndOne();
        againByHeats();
        againByStates();
        againByOn();
        againByShut();
        againByTemps();
        againByWanted();
        againByReadings();
    }

    private static void bearsTests() {
        peakMinutes();
        peakBehindAnyOfThese();
        bearsMinutes();
        bearsInSoManyMinutes();
        bearsAllAndNothing();
        bearsNone();
        bearsTheGreatest();
        bearsWhats();
    }

    private static void flipsTests() {
        flipsMinutes();
        flipsOnAndOff();
    }

    private static void yearsTests() {
        yearsMinutes();
        noYears();
        withoutZones();
        drawOfFour();
        drawOfZones();
        drawOfAHundred();
        seedWraps();
        sixtyYears();
        greatestHeatBehindAny();
        rowsOfYears();
        yearsWhats();
    }

    // ---- AHEAD

    /** Promise 11 (part 3): "AHEAD by n MINUTES (0 to 200)" and "IllegalArgumentException (behind that): n." */
    private static void aheadMinutes() {
        HeatGovernor g = Check.told("zone 99 50;");
        int[] beyond = {-1, 201, Integer.MIN_VALUE, Integer.MAX_VALUE};
        for (int what = 0; what < 3; what++) {
            int w = what;
            for (int n : beyond) {
                CHECK.illegal("ahead by " + n, () -> g.ahead(0, n, w));
            }
        }
        CHECK.row("0 and 200", new int[] {g.ahead(0, 0, 0), g.ahead(0, 200, 0)}, 200, 1500);
        // A round of two: behind an even number of MINUTES it is 240.
        HeatGovernor swings = Check.told(SWINGS);
        CHECK.row("199, 200", new int[] {swings.ahead(0, 199, 0), swings.ahead(0, 200, 0)}, 230, 240);
        // FIRST is 7.
        HeatGovernor shut = Check.told("zone 20 10;trip 0 critical 300 0;");
        CHECK.row("one less, and as many", new int[] {shut.ahead(0, 6, 2), shut.ahead(0, 7, 2)}, 0, 1);
    }

    /** Promise 11 (part 3): "AHEAD by n MINUTES (0 to 200): as all would be." (By 0: as all is.) */
    private static void aheadByNothing() {
        HeatGovernor g = Check.told("zone 20 10 mean 2;trip 0 critical 300 0;");
        for (int i = 0; i < 10; i++) {
            CHECK.row("now", new int[] {g.ahead(0, 0, 0), g.ahead(0, 0, 1), g.ahead(0, 0, 2)},
                    g.zone(0, 0), g.zone(0, 1), g.zone(0, 7));
            int[] next = {g.ahead(0, 1, 0), g.ahead(0, 1, 1), g.ahead(0, 1, 2)};
            g.minutes(1);
            CHECK.row("a minute later", next, g.zone(0, 0), g.zone(0, 1), g.zone(0, 7));
        }
    }

    /** Promise 11: "NoSuchElementException: also another what. IllegalArgumentException (behind that): n." */
    private static void aheadWhats() {
        HeatGovernor g = Check.told("zone 99 50;");
        CHECK.same("what 2", g.ahead(0, 0, 2), 0);
        CHECK.noSuch("what 3", () -> g.ahead(0, 0, 3));
        CHECK.noSuch("what -1", () -> g.ahead(0, 0, -1));
        CHECK.noSuch("zone 1", () -> g.ahead(1, 0, 0));
        CHECK.noSuch("zone -1", () -> g.ahead(-1, 0, 0));
        CHECK.noSuch("what 3 ahead of n 201", () -> g.ahead(0, 201, 3));
        CHECK.noSuch("zone 1 ahead of n -1", () -> g.ahead(1, -1, 0));
        CHECK.illegal("n 201", () -> g.ahead(0, 201, 2));
    }

    /** Promise 11: "whether SHUT (2)" (of one that is SHUT now; of one that is not SHUT in 200 MINUTES). */
    private static void aheadShut() {
        HeatGovernor g = Check.told("zone 0 50;zone 0 50;trip 0 critical 200 0;trip 1 critical 201 0;");
        g.minutes(1);
        CHECK.row("now and then", new int[] {g.ahead(0, 0, 2), g.ahead(0, 200, 2), g.ahead(1, 0, 2), g.ahead(1, 200, 2)},
                1, 1, 0, 0);
    }

    // ---- FIRST, NEEDED

    /** Promise 5 (part 3): "FIRST: the MINUTES (1 to 200) behind which some ZONE more is SHUT" (1, and 2). */
    private static void firstIsOne() {
        HeatGovernor one = Check.told("zone 20 50;trip 0 critical 220 0;");
        CHECK.row("1", new int[] {one.count(9), one.count(10)}, 1, 0);
        HeatGovernor two = Check.told("zone 20 50;trip 0 critical 221 0;");
        CHECK.row("2", new int[] {two.count(9), two.count(10)}, 2, 0);
    }

    /** Promise 5 (part 3): "FIRST: the MINUTES (1 to 200) behind which some ZONE more is SHUT; none" (200, and 201). */
    private static void firstIsTwoHundred() {
        // The last of five zones in a row rises slowly; its fan has nothing to do with it.
        String text = "zone 6 50;zone 0 50;zone 0 50;zone 0 50;zone 0 50;wall 0 1 2;wall 1 2 2;wall 2 3 2;wall 3 4 2;"
                + "device fan 4 1 1;trip 4 critical 276 0;";
        HeatGovernor lived = Check.told(text);
        for (int i = 0; i < 3; i++) {
            lived.minutes(60);
        }
        int shut = lived.count(5);
        while (lived.zone(4, 7) == 0 && shut < 240) {
            shut = lived.minutes(1);
        }
        CHECK.row("lived through", new int[] {lived.zone(4, 7), shut > 201 && shut < 240 ? 1 : 0}, 1, 1);
        HeatGovernor g = Check.told(text);
        g.minutes(shut - 201);
        CHECK.row("201", new int[] {g.count(9), g.count(10), g.count(11)}, -1, -1, -1);
        g.minutes(1);
        CHECK.row("200", new int[] {g.count(9), g.count(10), g.count(11)}, 200, 4, 0);
        g.minutes(1);
        CHECK.row("199", new int[] {g.count(9), g.count(10), g.count(11)}, 199, 4, 0);
    }

    /** Promise 5 (part 3): "behind which some ZONE more is SHUT; none". */
    private static void someZoneMore() {
        HeatGovernor g = Check.told("zone 20 50;zone 10 50;trip 0 critical 220 0;trip 1 critical 230 0;");
        CHECK.row("zone 0", new int[] {g.count(9), g.count(10)}, 1, 0);
        g.minutes(1);
        CHECK.row("zone 0 is SHUT; zone 1", new int[] {g.count(7), g.count(9), g.count(10)}, 1, 2, 1);
        g.minutes(2);
        CHECK.row("none more", new int[] {g.count(7), g.count(9), g.count(10)}, 3, -1, -1);
        HeatGovernor none = Check.told("zone 99 50;trip 0 hot 200 0;");
        CHECK.row("no critical TRIP", new int[] {none.count(9), none.count(10), new HeatGovernor().count(9)}, -1, -1, -1);
    }

    /** Promise 5 (part 3): "which (the least)". */
    private static void whichIsTheLeast() {
        HeatGovernor g = Check.told("zone 0 50;zone 20 50;zone 20 50;trip 2 critical 220 0;trip 1 critical 220 0;"
                + "trip 0 critical 201 0;");
        CHECK.row("1 and 2 at once", new int[] {g.count(9), g.count(10)}, 1, 1);
        HeatGovernor later = Check.told("zone 19 50;zone 20 50;trip 0 critical 220 0;trip 1 critical 220 0;");
        CHECK.row("1 sooner than 0", new int[] {later.count(9), later.count(10)}, 1, 1);
    }

    /** Promise 5 (part 3): "FIRST would be least (of like ones the first". */
    private static void neededOfLikeOnes() {
        String zones = "zone 20 50;zone 20 50;trip 0 critical 260 0;trip 1 critical 260 0;";
        CHECK.row("like ones, the second one more, the first one more", new int[] {
            needed(zones + "device valve 0 1 10;device valve 1 1 10;"),
            needed(zones + "device valve 0 1 10;device valve 1 1 15;device valve 0 1 5;"),
            needed(zones + "device valve 0 1 15;device valve 1 1 10;device valve 1 1 5;")}, 0, 1, 0);
    }

    /** NEEDED, with each device at its MOST. */
    private static int needed(String text) {
        HeatGovernor g = Check.told(text);
        for (int d = 0; d < g.count(2); d++) {
            g.hold(d, g.device(d, 2));
        }
        g.minutes(1);
        return g.count(11);
    }

    /** Promise 5 (part 3): "none, if FIRST would be none without any)". */
    private static void neededIsNone() {
        CHECK.same("no DEVICE", Check.told("zone 20 50;trip 0 critical 220 0;").count(11), -1);
        // Without the first one 15 a minute are left, and 950 leaks as much; without the second one 10, up to 700.
        String text = "zone 20 50;device valve 0 1 10;device valve 0 1 5;trip 0 critical ";
        CHECK.row("as it would come to, and above", new int[] {needed(text + "950 0;"), needed(text + "951 0;")}, 0, -1);
        CHECK.same("no critical TRIP", needed("zone 99 50;trip 0 hot 200 0;device valve 0 9 30;"), -1);
    }

    /** Promise 5 (part 3): "NEEDED: the DEVICE without which (its COOL being 0) FIRST would be least" (FIRST is none now). */
    private static void neededWithoutAFirst() {
        HeatGovernor g = Check.told("zone 20 50;device fan 0 1 1;device valve 0 1 20;trip 0 critical 250 0;");
        g.hold(1, 1);
        g.minutes(1);
        // 220 stays; without the valve 240 and 260.
        CHECK.row("FIRST, NEEDED", new int[] {g.count(9), g.count(11), g.ahead(0, 200, 0)}, -1, 1, 220);
        CHECK.row("its COOL is as it was", new int[] {g.device(1, 3), g.zone(0, 10)}, 20, 20);
    }

    /** Promise 5 (part 3): "(its COOL being 0)" (it is still there, and at its MOST or not). */
    private static void coolBeingZero() {
        HeatGovernor g = Check.told("zone 10 50;zone 10 50;device valve 0 1 1;device valve 1 1 10;trip 0 critical 260 0;"
                + "trip 1 critical 330 0;foreseen 9;");
        g.hold(1, 1);
        g.minutes(1);
        // Zone 0: 220 .. 250, 259, 268: its valve is not at its MOST, so that nothing is foretold with a COOL of 0, too.
        CHECK.row("FIRST", new int[] {g.count(9), g.count(10)}, 6, 0);
        // Zone 1 without its valve's COOL: 220, 230, and 240 and 10 times 9 are 330.
        CHECK.same("NEEDED", g.count(11), 1);
    }

    // ---- AGAIN

    /** Promise 5 (part 3): "AGAIN: the fewest MINUTES (1 to 200)" (1). */
    private static void againIsOne() {
        CHECK.same("without ZONES", new HeatGovernor().count(12), 1);
        CHECK.same("nothing moves", Check.told("zone 0 50;").count(12), 1);
        HeatGovernor g = Check.told(SWINGS);
        CHECK.same("not as it is now", g.count(12), -1);
        g.minutes(2);
        CHECK.same("the fewest of 2, 4, 6 ..", g.count(12), 2);
    }

    /** All that AGAIN tells of, but the READINGS ahead, of one ZONE, TRIP and DEVICE. */
    private static String seenByAgain(HeatGovernor g) {
        return g.zone(0, 0) + " " + g.zone(0, 1) + " " + g.zone(0, 7) + " " + g.trip(0, 4) + " " + g.device(0, 4) + " "
                + g.bind(0, 0, 1);
    }

    private static final int SETTLED = 480;

    private static HeatGovernor behind(String text, int minutes) {
        HeatGovernor g = Check.told(text);
        for (int left = minutes; left > 0; left -= 60) {
            g.minutes(Math.min(left, 60));
        }
        return g;
    }

    /** What is seen in each MINUTE from one on, lived through by some objects, since none may be asked too often. */
    private static String[] lived(String text, int from, int count) {
        String[] all = new String[count];
        HeatGovernor g = null;
        for (int i = 0; i < count; i++) {
            if (i % 40 == 0) {
                g = behind(text, from + i);
            } else {
                g.minutes(1);
            }
            all[i] = seenByAgain(g);
        }
        return all;
    }

    /** AGAIN in MINUTE 480, lived through; where the latest READINGS count, so many MINUTES ahead must be alike, too. */
    private static int livedAgain(String text, int readings) {
        int now = readings - 1;
        String[] all = lived(text, SETTLED - now, now + 201);
        for (int n = 1; n <= 200; n++) {
            boolean again = true;
            for (int ago = 0; ago < readings; ago++) {
                again &= all[now + n - ago].equals(all[now - ago]);
            }
            if (again) {
                return n;
            }
        }
        return -1;
    }

    /** Promise 5 (part 3): "AGAIN: the fewest MINUTES (1 to 200)" (200). */
    private static void againIsTwoHundred() {
        String text = "zone 57 38 slow 4;trip 0 step 239 34;device fan 0 6 20;bind 0 0 1;";
        CHECK.same("a round of 200, lived through", livedAgain(text, 1), 200);
        CHECK.same("a round of 200", behind(text, SETTLED).count(12), 200);
    }

    /** Promise 5 (part 3): "AGAIN: the fewest MINUTES (1 to 200) behind which all .. as they are now; none." (201.) */
    private static void againIsTwoHundredAndOne() {
        String three = "zone 28 19 slow 2;trip 0 step 250 38;device valve 0 9 9;bind 0 0 1;";
        String many = "zone 46 31 median 3;trip 0 step 231 24;device fan 0 9 28;bind 0 0 1;";
        CHECK.row("rounds, lived through", new int[] {livedAgain(three, 1), livedAgain(many, 3)}, 3, 67);
        CHECK.row("rounds", new int[] {behind(three, SETTLED).count(12), behind(many, SETTLED).count(12)}, 3, 67);
        // Both in one text, and apart from one another: 3 times 67 is the first number behind which both are as now.
        String both = three + "zone 46 31 median 3;trip 1 step 231 24;device fan 1 9 28;bind 1 1 1;";
        CHECK.same("a round of 201", behind(both, SETTLED).count(12), -1);
    }

    /** Promise 5 (part 3): "behind which all HEATS .. are as they are now". */
    private static void againByHeats() {
        // HEAT is 201 from the first minute on, TEMP stays 200: a difference of 1 by 4.
        HeatGovernor g = Check.told("zone 1 1 slow 4;");
        CHECK.row("HEAT moves alone", new int[] {g.count(12), g.ahead(0, 200, 1)}, -1, 200);
        g.minutes(1);
        CHECK.row("and stays", new int[] {g.count(12), g.zone(0, 0), g.zone(0, 1)}, 1, 201, 200);
    }

    /** Promise 5 (part 3): "all HEATS, STATES". */
    private static void againByStates() {
        // HEAT is held at 0 by the valve, so that the fan moves alone.
        HeatGovernor g = Check.told("zone 0 50;device valve 0 9 30;device fan 0 3 1;");
        g.hold(0, 9);
        g.minutes(3);
        CHECK.row("all stays", new int[] {g.zone(0, 0), g.count(12)}, 0, 1);
        g.hold(1, 3);
        CHECK.same("the fan goes to 3", g.count(12), -1);
        g.minutes(2);
        CHECK.row("is at 2", new int[] {g.device(1, 4), g.count(12)}, 2, -1);
        g.minutes(1);
        CHECK.row("is at 3", new int[] {g.device(1, 4), g.count(12)}, 3, 1);
    }

    /** Promise 5 (part 3): "STATES, ON". */
    private static void againByOn() {
        HeatGovernor g = Check.told("zone 0 50;trip 0 hot 200 0;");
        CHECK.same("it goes ON", g.count(12), -1);
        g.minutes(1);
        CHECK.same("it stays ON", g.count(12), 1);
    }

    /** Promise 5 (part 3): "ON, SHUT". */
    private static void againByShut() {
        // Zone 1 has no LOAD and swings with zone 0 (209, 230), so that SHUT changes nothing else.
        HeatGovernor g = Check.told("zone 30 50;zone 0 1;trip 0 step 230 0;device valve 0 9 20;bind 0 0 1;wall 0 1 2;"
                + "trip 1 critical 400 0;");
        g.minutes(60);
        g.minutes(60);
        CHECK.row("a round of 2", new int[] {g.count(12), g.count(7), g.count(8)}, 2, 0, 1);
        g.foresee(9);
        CHECK.row("it is SHUT in that", new int[] {g.count(12), g.ahead(1, 2, 2)}, -1, 1);
        g.minutes(2);
        CHECK.row("SHUT, and a round of 2", new int[] {g.count(7), g.zone(1, 8), g.count(12)}, 2, 2, 2);
    }

    /** Promise 5 (part 3): "SHUT, TEMPS". */
    private static void againByTemps() {
        // HEAT is 240 from the first minute on; TEMPS 210, 217, 222, 226, 229, 231, 233, 234, 235, 236, 237, 237.
        HeatGovernor g = Check.told("zone 40 1 slow 4;");
        g.minutes(10);
        CHECK.row("TEMP moves alone", new int[] {g.zone(0, 0), g.zone(0, 1), g.count(12)}, 240, 236, -1);
        g.minutes(1);
        CHECK.row("and stays", new int[] {g.zone(0, 0), g.zone(0, 1), g.count(12)}, 240, 237, 1);
    }

    /** Promise 5 (part 3): "TEMPS, WANTED". */
    private static void againByWanted() {
        // HEAT goes to 220, 222, 213 and stays; the trip is OFF then, and the device is held shut.
        HeatGovernor g = Check.told("zone 0 50;trip 0 step 220 0;device valve 0 2 1;device valve 0 9 1;bind 0 0 1;");
        g.hold(0, 0);
        g.load(0, 20);
        g.minutes(1);
        g.load(0, 2);
        g.minutes(1);
        g.load(0, 0);
        g.hold(1, 9);
        g.minutes(1);
        g.hold(1, 0);
        g.minutes(1);
        CHECK.row("WANTED moves alone", new int[] {g.zone(0, 0), g.trip(0, 4), g.bind(0, 0, 1), g.count(12)}, 213, 0, 1, -1);
        g.minutes(1);
        CHECK.row("and stays", new int[] {g.zone(0, 0), g.trip(0, 4), g.bind(0, 0, 1), g.count(12)}, 213, 0, 0, 1);
    }

    /** Promise 5 (part 3): "of each ZONE the latest DEPTH READINGS (raw, slow: 1)". */
    private static void againByReadings() {
        // One reading of 240, then 200 again; a median of 2 to 4 is 200 all the time.
        for (int depth = 2; depth <= 4; depth++) {
            HeatGovernor g = afterOneReading("median " + depth);
            for (int i = 1; i < depth; i++) {
                CHECK.row("240 is " + i + " ago, of " + depth, new int[] {g.zone(0, 1), g.count(12)}, 200, -1);
                g.minutes(1);
            }
            CHECK.row("240 is " + depth + " ago", new int[] {g.zone(0, 1), g.count(12)}, 200, 1);
        }
        CHECK.same("raw: 1", afterOneReading("").count(12), 1);
        CHECK.same("median 1", afterOneReading("median 1").count(12), 1);
        // 201 is nothing by 4: TEMP stays 200.
        HeatGovernor slow = Check.told("zone 1 1 slow 4;");
        slow.minutes(1);
        slow.load(0, 0);
        slow.minutes(1);
        CHECK.row("slow: 1", new int[] {slow.zone(0, 0), slow.zone(0, 1), slow.count(12)}, 200, 200, 1);
    }

    private static HeatGovernor afterOneReading(String filter) {
        HeatGovernor g = Check.told("zone 40 1 " + filter + ";");
        g.minutes(1);
        g.load(0, 0);
        g.minutes(1);
        CHECK.same("HEAT", g.zone(0, 0), 200);
        return g;
    }

    // ---- PEAK, BEARS

    /** Promise 12 (part 3): "PEAK of a ZONE in n (1 to 200) MINUTES". */
    private static void peakMinutes() {
        HeatGovernor g = Check.told("zone 99 50;");
        int[] beyond = {0, -1, 201, Integer.MIN_VALUE, Integer.MAX_VALUE};
        for (int n : beyond) {
            CHECK.illegal("peak in " + n, () -> g.bears(0, n, 0));
        }
        CHECK.row("1 and 200", new int[] {g.bears(0, 1, 0), g.bears(0, 200, 0)}, 299, 1500);
        // Five zones in a row: the last one still rises behind 199 MINUTES.
        HeatGovernor slow = Check.told("zone 6 50;zone 0 50;zone 0 50;zone 0 50;zone 0 50;wall 0 1 2;wall 1 2 2;wall 2 3 2;"
                + "wall 3 4 2;");
        int last = 0;
        for (int n = 190; n <= 200; n++) {
            last = Math.max(last, slow.ahead(4, n, 0));
        }
        CHECK.same("the last minutes count", slow.bears(4, 200, 0), last);
    }

    /** Promise 12 (part 3): "the greatest HEAT behind any of these." (Not as it is now; the first one; one in the midst.) */
    private static void peakBehindAnyOfThese() {
        HeatGovernor g = Check.told("zone 99 1;");
        g.minutes(1);
        g.load(0, 0);
        CHECK.row("299 now, 200 then", new int[] {g.zone(0, 0), g.bears(0, 1, 0), g.bears(0, 200, 0)}, 299, 200, 200);
        HeatGovernor falls = Check.told("zone 99 50;");
        falls.minutes(1);
        falls.load(0, 0);
        // 298, 297, 296 ..
        CHECK.row("the first one", new int[] {falls.bears(0, 1, 0), falls.bears(0, 2, 0), falls.bears(0, 200, 0)},
                298, 298, 298);
        HeatGovernor cold = Check.told("zone 0 50;device valve 0 9 30;");
        cold.hold(0, 9);
        cold.minutes(2);
        CHECK.row("0 all the time", new int[] {cold.zone(0, 0), cold.bears(0, 1, 0), cold.bears(0, 200, 0)}, 0, 0, 0);
        HeatGovernor swings = Check.told(SWINGS);
        CHECK.row("230, 240, 230", new int[] {swings.bears(0, 1, 0), swings.bears(0, 2, 0), swings.bears(0, 3, 0)},
                230, 240, 240);
    }

    /** Promise 12 (part 3): "BEARS of a ZONE for n (1 to 60)". */
    private static void bearsMinutes() {
        HeatGovernor g = Check.told("zone 0 50;trip 0 critical 250 0;");
        int[] beyond = {0, -1, 61, 200, 201, Integer.MIN_VALUE, Integer.MAX_VALUE};
        for (int n : beyond) {
            CHECK.illegal("bears for " + n, () -> g.bears(0, n, 1));
        }
        // By a LOAD of 1 it comes to 249 in 49 MINUTES and to 250 in 50.
        CHECK.row("1 and 60", new int[] {g.bears(0, 1, 1), g.bears(0, 60, 1)}, 49, 0);
        CHECK.row("61 is enough for PEAK", new int[] {g.bears(0, 61, 0)}, 200);
    }

    /** Promise 12 (part 3): "the greatest LOAD (0 to 99) by which it would not be SHUT in n MINUTES". */
    private static void bearsInSoManyMinutes() {
        HeatGovernor g = Check.told("zone 99 50;trip 0 critical 250 0;");
        // Up to 249 nothing leaks: n times LOAD is below 50.
        for (int n = 1; n <= 60; n++) {
            CHECK.same("for " + n, g.bears(0, n, 1), 49 / n);
        }
        CHECK.same("LOAD is as it was", g.zone(0, 3), 99);
    }

    /** Promise 12 (part 3): "the greatest LOAD (0 to 99)" (99, 98, 0). */
    private static void bearsAllAndNothing() {
        CHECK.same("no critical TRIP", Check.told("zone 0 50;trip 0 hot 200 0;").bears(0, 60, 1), 99);
        CHECK.same("300: 99", Check.told("zone 0 50;trip 0 critical 300 0;").bears(0, 1, 1), 99);
        CHECK.same("299: 98", Check.told("zone 0 50;trip 0 critical 299 0;").bears(0, 1, 1), 98);
        CHECK.same("202: 1", Check.told("zone 0 50;trip 0 critical 202 0;").bears(0, 1, 1), 1);
        CHECK.same("201: 0", Check.told("zone 0 50;trip 0 critical 201 0;").bears(0, 1, 1), 0);
    }

    /** Promise 12 (part 3): "nor is now; none." */
    private static void bearsNone() {
        CHECK.same("200: not even 0", Check.told("zone 0 50;trip 0 critical 200 0;").bears(0, 1, 1), -1);
        // Zone 1 is 250 behind a MINUTE, and all that it is more comes through the wall then.
        HeatGovernor wall = Check.told("zone 0 50;zone 50 50;wall 1 0 1;trip 0 critical 220 0;");
        CHECK.row("19 for 1, not even 0 for 2", new int[] {wall.bears(0, 1, 1), wall.bears(0, 2, 1)}, 19, -1);
        HeatGovernor g = Check.told("zone 40 1;trip 0 critical 240 0;");
        g.minutes(1);
        CHECK.row("SHUT now", new int[] {g.zone(0, 7), g.bears(0, 1, 1), g.bears(0, 60, 1)}, 1, -1, -1);
        g.minutes(1);
        CHECK.row("OFF, but SHUT now", new int[] {g.trip(0, 4), g.bears(0, 1, 1)}, 0, -1);
        g.start(0);
        CHECK.row("no more SHUT", new int[] {g.bears(0, 1, 1), g.bears(0, 60, 1)}, 39, 39);
    }

    /** Promise 12 (part 3): "the greatest LOAD (0 to 99) by which it would not be SHUT" (though it would by a lesser one). */
    private static void bearsTheGreatest() {
        String text = "zone 0 50;trip 0 critical 230 0;trip 0 step 205 0;device valve 0 1 5;bind 1 0 1;";
        // 5 comes to 205 at once, and the valve stays open; by 3 and 4 it opens and shuts, and 6 is too much for it.
        int[] dues = {0, 0, 0, 1, 1, 0, 1, 1};
        for (int load = 0; load < dues.length; load++) {
            HeatGovernor g = Check.told(text);
            g.load(0, load);
            g.minutes(60);
            CHECK.same("SHUT by " + load, g.zone(0, 7), dues[load]);
        }
        CHECK.same("the greatest", Check.told(text).bears(0, 60, 1), 5);
    }

    /** Promise 12: "NoSuchElementException: also another what. IllegalArgumentException (behind that): n." */
    private static void bearsWhats() {
        HeatGovernor g = Check.told("zone 9 50;");
        CHECK.same("what 1", g.bears(0, 60, 1), 99);
        CHECK.noSuch("what 2", () -> g.bears(0, 60, 2));
        CHECK.noSuch("what -1", () -> g.bears(0, 60, -1));
        CHECK.noSuch("zone 1", () -> g.bears(1, 60, 1));
        CHECK.noSuch("what 2 ahead of n 0", () -> g.bears(0, 0, 2));
        CHECK.noSuch("zone 1 ahead of n 201", () -> g.bears(1, 201, 0));
        CHECK.illegal("n 61 of BEARS", () -> g.bears(0, 61, 1));
        CHECK.illegal("n 201 of PEAK", () -> g.bears(0, 201, 0));
    }

    // ---- FLIPS

    /** Promise 13: "FLIPS of a TRIP in n (1 to 200) MINUTES." and "IllegalArgumentException (behind that): n." */
    private static void flipsMinutes() {
        HeatGovernor g = Check.told(SWINGS);
        int[] beyond = {0, -1, 201, Integer.MIN_VALUE, Integer.MAX_VALUE};
        for (int n : beyond) {
            CHECK.illegal("flips in " + n, () -> g.flips(1, n));
        }
        CHECK.row("199, 200", new int[] {g.flips(1, 199), g.flips(1, 200)}, 198, 199);
        CHECK.noSuch("trip 2", () -> g.flips(2, 1));
        CHECK.noSuch("trip -1", () -> g.flips(-1, 1));
        CHECK.noSuch("trip 2 ahead of n 0", () -> g.flips(2, 0));
    }

    /** Promise 13 (part 3): "FLIPS of a TRIP in n: how often it goes ON or OFF." */
    private static void flipsOnAndOff() {
        HeatGovernor g = Check.told(SWINGS + "trip 0 hot 999 0;trip 0 hot 200 0;");
        CHECK.row("none, ON, OFF, ON", new int[] {g.flips(1, 1), g.flips(1, 2), g.flips(1, 3), g.flips(1, 4)}, 0, 1, 2, 3);
        CHECK.row("never, once", new int[] {g.flips(2, 200), g.flips(3, 1), g.flips(3, 200)}, 0, 1, 1);
        g.minutes(1);
        CHECK.same("it is ON already", g.flips(3, 200), 0);
    }

    // ---- YEARS: the seeds' DRAWS are worked out by hand, not by the class

    /** Promise 24 (part 3): "YEARS by a seed: n times (0 to 60)" and "IllegalArgumentException (behind that): n." */
    private static void yearsMinutes() {
        HeatGovernor g = Check.told("zone 9 50;");
        int[] beyond = {-1, 61, Integer.MIN_VALUE, Integer.MAX_VALUE};
        for (int what = 0; what < 3; what++) {
            int w = what;
            for (int n : beyond) {
                CHECK.illegal("years of " + n, () -> g.years(1, n, w));
            }
        }
        // By 2327 the first 37 DRAWS of 4 are not 0: the LOAD stays.
        CHECK.row("0, 1, 2", new int[] {g.years(2327, 0, 0), g.years(2327, 1, 0), g.years(2327, 2, 0)}, 0, 209, 218);
        CHECK.same("60 is taken", g.years(2327, 60, 0) >= 218 ? 1 : 0, 1);
    }

    /** Promise 24 (part 3): "the greatest HEAT there was behind any of them (0 without)" (n is 0). */
    private static void noYears() {
        HeatGovernor g = Check.told("zone 40 50;zone 0 50;trip 0 critical 240 0;");
        CHECK.row("ahead of all", new int[] {g.years(0, 0, 0), g.years(0, 0, 1), g.years(0, 0, 2)}, 0, 0, 0);
        g.minutes(1);
        CHECK.row("SHUT now, with rows", new int[] {g.years(0, 0, 0), g.years(0, 0, 1), g.years(0, 0, 2)}, 0, 1, 0);
    }

    /** Promise 24 (part 3): "(without ZONES nothing is drawn behind)" and "(0 without)". */
    private static void withoutZones() {
        HeatGovernor g = new HeatGovernor();
        for (int seed = -3; seed <= 3; seed++) {
            CHECK.row("without ZONES", new int[] {g.years(seed, 60, 0), g.years(seed, 60, 1), g.years(seed, 60, 2)}, 0, 0, 0);
        }
    }

    /** Promise 24 (part 3): "a DRAW of 4: 0 the LOAD of a DRAW of ZONES becomes a DRAW of 100 .. else nothing". */
    private static void drawOfFour() {
        HeatGovernor g = Check.told("zone 5 50;");
        // The first DRAW of 4 by these seeds is 0, 1, 2, 3; the LOAD by 0 is 88.
        CHECK.row("0, 1, 2, 3", new int[] {g.years(0, 1, 0), g.years(4, 1, 0), g.years(1, 1, 0), g.years(3, 1, 0)},
                288, 205, 205, 205);
        CHECK.same("LOAD is as it was", g.zone(0, 3), 5);
    }

    /** Promise 24 (part 3): "the LOAD of a DRAW of ZONES" (of one, of five: each), "ZONES that are SHUT then (bits)". */
    private static void drawOfZones() {
        HeatGovernor one = Check.told("zone 0 50;trip 0 critical 201 0;");
        HeatGovernor five = Check.told("zone 0 50;".repeat(5) + "trip 0 critical 201 0;trip 1 critical 201 0;"
                + "trip 2 critical 201 0;trip 3 critical 201 0;trip 4 critical 201 0;");
        int[][] dues = {{9, 0, 19}, {7, 1, 68}, {2, 2, 39}, {0, 3, 88}, {26, 4, 57}};
        for (int[] due : dues) {
            CHECK.row("one ZONE by " + due[0], new int[] {one.years(due[0], 1, 0), one.years(due[0], 1, 1)}, 200 + due[2], 1);
            CHECK.row("five ZONES by " + due[0], new int[] {five.years(due[0], 1, 0), five.years(due[0], 1, 1)},
                    200 + due[2], 1 << due[1]);
        }
    }

    /** Promise 24 (part 3): "becomes a DRAW of 100" (0, and 99). */
    private static void drawOfAHundred() {
        HeatGovernor g = Check.told("zone 50 50;");
        CHECK.row("0 and 99", new int[] {g.years(380, 1, 0), g.years(902, 1, 0)}, 200, 299);
    }

    /** Promise 24 (part 3): "(an int that wraps); a DRAW of n is its bits 16 to 30 MOD n then." */
    private static void seedWraps() {
        HeatGovernor g = Check.told("zone 5 50;");
        // The least int differs from 0 in bit 31 alone, and so do all seeds behind: the same DRAWS.
        CHECK.row("bit 31 counts for nothing", new int[] {g.years(0, 1, 0), g.years(Integer.MIN_VALUE, 1, 0),
            g.years(2, 1, 0), g.years(Integer.MIN_VALUE + 2, 1, 0)}, 288, 288, 239, 239);
        // The first DRAW of 4 by the greatest int and by -1 is 1, by -5 it is 0 and the LOAD 59.
        CHECK.row("below 0", new int[] {g.years(Integer.MAX_VALUE, 1, 0), g.years(-1, 1, 0), g.years(-5, 1, 0)}, 205, 205, 259);
    }

    /** Promise 24 (part 3): "n times (0 to 60): a DRAW of 4: .. then a MINUTE" (60 of them, lived through by acts). */
    private static void sixtyYears() {
        HeatGovernor g = Check.told("zone 30 50;zone 0 20;trip 0 critical 330 0;trip 1 hot 230 4;");
        int[] years = {g.years(-77, 60, 0), g.years(-77, 60, 1), g.years(-77, 60, 2)};
        int seed = -77;
        int greatest = 0;
        for (int i = 0; i < 60; i++) {
            seed = seed * 1103515245 + 12345;
            if ((seed >> 16 & 3) == 0) {
                seed = seed * 1103515245 + 12345;
                int zone = seed >> 16 & 1;
                seed = seed * 1103515245 + 12345;
                g.load(zone, (seed >> 16 & 32767) % 100);
            }
            g.minutes(1);
            greatest = Math.max(greatest, Math.max(g.zone(0, 0), g.zone(1, 0)));
        }
        CHECK.row("as lived through", years, greatest, g.count(7), g.count(13));
    }

    /** Promise 24 (part 3): "the greatest HEAT there was behind any of them" (not as it is now, nor at the end alone). */
    private static void greatestHeatBehindAny() {
        HeatGovernor g = Check.told("zone 99 1;");
        g.minutes(1);
        g.load(0, 0);
        CHECK.row("299 now, 200 then", new int[] {g.zone(0, 0), g.years(1, 1, 0)}, 299, 200);
        HeatGovernor swings = Check.told(SWINGS);
        // 230, 240, 230 by a seed that tells no LOAD.
        CHECK.row("240 in the midst", new int[] {swings.years(2327, 1, 0), swings.years(2327, 2, 0), swings.years(2327, 3, 0)},
                230, 240, 240);
    }

    /** Promise 24 (part 3): "rows that came to THE LOG" (more than it holds; it is full already). */
    private static void rowsOfYears() {
        String text = "zone 30 50;trip 0 step 230 0;device valve 0 9 20;bind 0 0 1;" + "trip 0 hot 235 0;".repeat(9);
        HeatGovernor g = Check.told(text);
        // One row in the first minute, nine in each one behind.
        CHECK.row("1, 37, 46", new int[] {g.years(2327, 1, 2), g.years(2327, 5, 2), g.years(2327, 6, 2)}, 1, 37, 46);
        g.minutes(10);
        CHECK.row("THE LOG is full", new int[] {g.count(13), g.years(2327, 1, 2), g.years(2327, 5, 2), g.count(13)},
                40, 9, 45, 40);
    }

    /** Promise 24: "NoSuchElementException: another what. IllegalArgumentException (behind that): n." */
    private static void yearsWhats() {
        HeatGovernor g = Check.told("zone 9 50;");
        CHECK.same("what 2", g.years(1, 60, 2), 0);
        CHECK.noSuch("what 3", () -> g.years(1, 60, 3));
        CHECK.noSuch("what -1", () -> g.years(1, 60, -1));
        CHECK.noSuch("what 3 ahead of n 61", () -> g.years(1, 61, 3));
        CHECK.noSuch("what -1 ahead of n -1", () -> g.years(1, -1, -1));
        HeatGovernor none = new HeatGovernor();
        CHECK.noSuch("what 3 without ZONES", () -> none.years(1, 1, 3));
        CHECK.illegal("n 61 without ZONES", () -> none.years(1, 61, 2));
    }
}
