/** What would be: promises 11 (ahead), 12 (bears), 13 (flips), 24 (years) and count's FIRST, NEEDED, AGAIN. */
public final class AheadTest {
    private static final Check CHECK = new Check();
    private static final String CRITICAL = "zone 20 10;trip 0 critical 300 0;";
    // TEMPS 230, 240, 230, 240 ..
    private static final String SWINGS = "zone 30 50;trip 0 step 230 0;device valve 0 9 20;bind 0 0 1;trip 0 hot 235 0;";
    private static final int[] ODD = {Integer.MIN_VALUE, -1, Integer.MAX_VALUE};

    public static void main(String[] args) {
        ahead();
        first();
        twoHundredMinutes();
        needed();
        again();
        peaks();
        bears();
        flips();
        years();
        nothingChanges();
        CHECK.end();
    }

    private static void ahead() {
        HeatGovernor g = Check.told("zone 20 10 mean 2;trip 0 critical 300 0;");
        CHECK.row("heat, temp", new int[] {g.ahead(0, 0, 0), g.ahead(0, 0, 1), g.ahead(0, 2, 0), g.ahead(0, 2, 1)},
                200, 200, 238, 229);
        CHECK.row("shut", new int[] {g.ahead(0, 6, 2), g.ahead(0, 7, 2), g.ahead(0, 8, 2), g.ahead(0, 200, 2)}, 0, 1, 1, 1);
        g.minutes(2);
        CHECK.row("from now", new int[] {g.ahead(0, 0, 0), g.ahead(0, 1, 0)}, 238, 255);
        CHECK.illegal("ahead(0, 201, 0)", () -> g.ahead(0, 201, 0));
        CHECK.noSuch("ahead(1, 0, 0)", () -> g.ahead(1, 0, 0));
        CHECK.noSuch("ahead(0, 0, 3)", () -> g.ahead(0, 0, 3));
        CHECK.noSuch("ahead(0, 201, 3)", () -> g.ahead(0, 201, 3));
        for (int odd : ODD) {
            CHECK.illegal("ahead n " + odd, () -> g.ahead(0, odd, 0));
            CHECK.noSuch("ahead zone " + odd, () -> g.ahead(odd, odd, 0));
            CHECK.noSuch("ahead what " + odd, () -> g.ahead(0, 0, odd));
        }
    }

    private static void first() {
        HeatGovernor g = Check.told("zone 0 50;zone 50 50;zone 50 50;trip 2 critical 250 0;trip 1 critical 250 0;trip 0 critical 220 0;");
        CHECK.row("the least of those", new int[] {g.count(9), g.count(10)}, 1, 1);
        g.minutes(1);
        CHECK.row("none more", new int[] {g.count(7), g.count(9), g.count(10)}, 6, -1, -1);
        g.load(0, 10);
        CHECK.row("one more", new int[] {g.count(9), g.count(10)}, 2, 0);
        HeatGovernor edge = Check.told("zone 1 50;trip 0 critical 250 0;");
        // 1 a minute up to 250.
        CHECK.row("50 minutes", new int[] {edge.count(9), edge.count(10)}, 50, 0);
        HeatGovernor late = Check.told("zone 1 50;zone 0 50;wall 0 1 50;trip 1 critical 249 0;trip 0 hot 200 0;");
        CHECK.same("none in 200", late.count(9), -1);
        CHECK.same("no zone at all", new HeatGovernor().count(10), -1);
    }

    /** FIRST and NEEDED in 200 MINUTES, none in 201. */
    private static void twoHundredMinutes() {
        // Five zones share what comes to the first one, and the last one rises slowly.
        String text = "zone 6 50;zone 0 50;zone 0 50;zone 0 50;zone 0 50;wall 0 1 2;wall 1 2 2;wall 2 3 2;wall 3 4 2;"
                + "device fan 4 1 1;trip 4 critical 276 0;";
        HeatGovernor g = Check.told(text);
        int until = 0;
        while (g.ahead(4, 0, 2) == 0 && until < 400) {
            until = g.minutes(1);
        }
        CHECK.row("shut late", new int[] {g.zone(4, 7), until > 201 ? 1 : 0}, 1, 1);
        HeatGovernor again = Check.told(text);
        for (int i = 0; i < until - 201; i++) {
            again.minutes(1);
        }
        CHECK.row("201", new int[] {again.count(9), again.count(10), again.count(11)}, -1, -1, -1);
        again.minutes(1);
        CHECK.row("200", new int[] {again.count(9), again.count(10), again.count(11)}, 200, 4, 0);
        again.minutes(1);
        CHECK.row("199", new int[] {again.count(9), again.count(10), again.count(11)}, 199, 4, 0);
    }

    private static void needed() {
        String text = "zone 30 50;zone 30 50;trip 0 critical 400 0;trip 1 critical 400 0;"
                + "device valve 0 1 9;device valve 1 1 20;device valve 1 1 15;device valve 1 1 20;";
        HeatGovernor g = Check.told(text);
        for (int d = 0; d < 4; d++) {
            g.hold(d, 1);
        }
        g.minutes(1);
        CHECK.row("without it sooner", new int[] {g.count(9) > 0 ? 1 : 0, g.count(11)}, 1, 0);
        CHECK.same("without any device", Check.told(CRITICAL).count(11), -1);
        HeatGovernor calm = Check.told("zone 0 50;trip 0 critical 400 0;device fan 0 1 1;");
        CHECK.same("none", calm.count(11), -1);
        HeatGovernor like = Check.told("zone 20 10;trip 0 critical 300 0;device fan 0 1 1;device fan 0 1 1;");
        CHECK.same("of like ones the first", like.count(11), 0);
        HeatGovernor second = Check.told("zone 40 50;trip 0 critical 300 0;device valve 0 1 5;device valve 0 1 25;");
        second.hold(0, 1);
        second.hold(1, 1);
        second.minutes(1);
        CHECK.same("the greater one", second.count(11), 1);
        CHECK.same("its cool is as it was", second.device(1, 3), 25);
    }

    private static void again() {
        CHECK.same("nothing moves", Check.told("zone 0 50;").count(12), 1);
        CHECK.same("never", Check.told(CRITICAL).count(12), -1);
        HeatGovernor g = Check.told(SWINGS);
        CHECK.same("not yet in the round", g.count(12), -1);
        g.minutes(2);
        CHECK.same("a round of two", g.count(12), 2);
        HeatGovernor deep = Check.told(SWINGS.replace("zone 30 50", "zone 30 50 mean 1"));
        deep.minutes(2);
        CHECK.same("a mean of one", deep.count(12), 2);
        // TEMP of zone 1 stays 200 for long, but its latest readings differ.
        HeatGovernor readings = Check.told("zone 0 1 median 3;device valve 0 1 1;");
        readings.hold(0, 1);
        readings.minutes(1);
        readings.hold(0, -1);
        readings.minutes(1);
        CHECK.row("the latest reading is another one", new int[] {readings.zone(0, 0), readings.zone(0, 1)}, 199, 200);
        readings.minutes(1);
        CHECK.row("heat, temp as they were", new int[] {readings.zone(0, 0), readings.zone(0, 1), readings.count(12)},
                200, 200, -1);
        readings.minutes(2);
        CHECK.same("all three alike", readings.count(12), 1);
        // HEAT 240 from the first minute on; TEMPS 210, 217, 222, 226, 229, 231, 233, 234, 235, 236, 237, 237.
        HeatGovernor temps = Check.told("zone 40 1 slow 4;");
        temps.minutes(10);
        CHECK.row("TEMP still moves", new int[] {temps.zone(0, 1), temps.count(12)}, 236, -1);
        temps.minutes(1);
        CHECK.row("TEMP stays", new int[] {temps.zone(0, 1), temps.count(12)}, 237, 1);
        HeatGovernor slow = Check.told("zone 2 1 slow 4;");
        slow.minutes(1);
        CHECK.row("slow: the latest reading alone", new int[] {slow.zone(0, 0), slow.zone(0, 1), slow.count(12)}, 202, 200, 1);
        longRounds();
        HeatGovernor wants = Check.told("zone 0 50;trip 0 step 200 0;device fan 0 9 1;bind 0 0 1;");
        CHECK.same("it goes ON", wants.count(12), -1);
        wants.minutes(1);
        CHECK.same("ON stays", wants.count(12), 1);
    }

    private static void longRounds() {
        String round = "zone 57 38 slow 4;trip 0 step 239 34;device fan 0 6 20;bind 0 0 1;";
        HeatGovernor g = Check.told(round);
        for (int i = 0; i < 8; i++) {
            g.minutes(60);
        }
        CHECK.row("a round of 200", new int[] {g.count(12), g.ahead(0, 200, 0), g.ahead(0, 200, 1)},
                200, g.zone(0, 0), g.zone(0, 1));
        String three = "zone 28 19 slow 2;trip 0 step 250 38;device valve 0 9 9;bind 0 0 1;";
        String sixtySeven = "zone 46 31 median 3;trip 1 step 231 24;device fan 1 9 28;bind 1 1 1;";
        HeatGovernor both = Check.told(three + sixtySeven);
        for (int i = 0; i < 8; i++) {
            both.minutes(60);
        }
        CHECK.same("rounds of 3 and 67 are one of 201", both.count(12), -1);
    }

    private static void peaks() {
        HeatGovernor g = Check.told(CRITICAL);
        CHECK.row("peaks", new int[] {g.bears(0, 1, 0), g.bears(0, 6, 0), g.bears(0, 7, 0), g.bears(0, 200, 0)},
                220, 295, 306, 306);
        g.minutes(7);
        CHECK.same("now does not count", g.bears(0, 1, 0), 296);
        CHECK.illegal("bears(0, 0, 0)", () -> g.bears(0, 0, 0));
        CHECK.illegal("bears(0, 201, 0)", () -> g.bears(0, 201, 0));
    }

    private static void bears() {
        HeatGovernor g = Check.told(CRITICAL);
        // 1 minute: 99 at most makes 299; 2 minutes: 200 + L + L - L / 10 below 300.
        CHECK.row("bears", new int[] {g.bears(0, 1, 1), g.bears(0, 2, 1), g.bears(0, 60, 1)}, 99, 52, 9);
        CHECK.same("without a critical trip", Check.told("zone 5 5;").bears(0, 60, 1), 99);
        HeatGovernor beside = Check.told("zone 99 50;zone 0 50;wall 0 1 1;trip 1 critical 220 0;");
        CHECK.same("not even 0", beside.bears(1, 60, 1), -1);
        CHECK.same("the other one", beside.bears(0, 60, 1), 99);
        CHECK.same("nothing but 0", Check.told("zone 5 50;trip 0 critical 201 0;").bears(0, 60, 1), 0);
        g.minutes(7);
        CHECK.same("shut now", g.bears(0, 1, 1), -1);
        g.minutes(1);
        g.start(0);
        // 296 and 12 less 9 are 299.
        CHECK.row("started", new int[] {g.zone(0, 0), g.bears(0, 1, 1)}, 296, 12);
        CHECK.illegal("bears(0, 0, 1)", () -> g.bears(0, 0, 1));
        CHECK.illegal("bears(0, 61, 1)", () -> g.bears(0, 61, 1));
        CHECK.noSuch("bears(0, 61, 2)", () -> g.bears(0, 61, 2));
        CHECK.noSuch("bears(1, 61, 1)", () -> g.bears(1, 61, 1));
        for (int odd : ODD) {
            CHECK.illegal("bears n " + odd, () -> g.bears(0, odd, 1));
            CHECK.noSuch("bears zone " + odd, () -> g.bears(odd, odd, 0));
            CHECK.noSuch("bears what " + odd, () -> g.bears(0, 1, odd));
        }
    }

    private static void flips() {
        HeatGovernor g = Check.told(SWINGS);
        CHECK.row("flips", new int[] {g.flips(0, 200), g.flips(1, 1), g.flips(1, 2), g.flips(1, 3), g.flips(1, 200)},
                1, 0, 1, 2, 199);
        CHECK.illegal("flips(0, 0)", () -> g.flips(0, 0));
        CHECK.illegal("flips(0, 201)", () -> g.flips(0, 201));
        CHECK.noSuch("flips(2, 0)", () -> g.flips(2, 0));
        for (int odd : ODD) {
            CHECK.illegal("flips n " + odd, () -> g.flips(0, odd));
            CHECK.noSuch("flips trip " + odd, () -> g.flips(odd, odd));
        }
    }

    /** Lives the years through by acts. */
    private static void years() {
        livedYears("zone 30 20;", 1);
        livedYears("zone 30 20;zone 10 50;zone 0 9 mean 2;wall 0 2 5;trip 0 critical 330 0;trip 1 hot 240 0;trip 2 hot 205 1;", 3);
        oddYears();
    }

    private static void livedYears(String text, int zones) {
        for (int first = -20; first < 20; first++) {
            HeatGovernor g = Check.told(text);
            g.minutes(3);
            int[] due = {g.years(first, 40, 0), g.years(first, 40, 1), g.years(first, 40, 2)};
            int rows = g.count(13);
            int seed = first;
            int greatest = 0;
            for (int i = 0; i < 40; i++) {
                seed = seed * 1103515245 + 12345;
                if ((seed >>> 16 & 32767) % 4 == 0) {
                    seed = seed * 1103515245 + 12345;
                    int zone = (seed >>> 16 & 32767) % zones;
                    seed = seed * 1103515245 + 12345;
                    g.load(zone, (seed >>> 16 & 32767) % 100);
                }
                g.minutes(1);
                for (int z = 0; z < zones; z++) {
                    greatest = Math.max(greatest, g.zone(z, 0));
                }
            }
            CHECK.row("years of " + first, due, greatest, g.count(7), g.count(13) - rows);
        }
    }

    private static void oddYears() {
        HeatGovernor none = new HeatGovernor();
        CHECK.row("without zones", new int[] {none.years(7, 60, 0), none.years(7, 60, 1), none.years(7, 60, 2)}, 0, 0, 0);
        HeatGovernor swings = Check.told(SWINGS);
        swings.minutes(20);
        CHECK.row("no years", new int[] {swings.years(1, 0, 0), swings.years(1, 0, 2)}, 0, 0);
        HeatGovernor shut = Check.told(CRITICAL);
        shut.minutes(7);
        CHECK.row("no years, shut now", new int[] {shut.years(1, 0, 0), shut.years(1, 0, 1)}, 0, 1);
        // Nine trips that go ON or OFF in each minute but the first one: more rows than THE LOG holds.
        StringBuilder many = new StringBuilder("zone 30 50;trip 0 step 230 0;device valve 0 9 20;bind 0 0 1;");
        many.append("trip 0 hot 235 0;".repeat(9));
        HeatGovernor rows = Check.told(many.toString());
        int seed = 0;
        while (drawsNothing(seed) < 12) {
            seed++;
        }
        CHECK.same("more than 40 rows", rows.years(seed, 12, 2), 100);
        CHECK.illegal("years(0, 61, 0)", () -> rows.years(0, 61, 0));
        CHECK.noSuch("years(0, 61, 3)", () -> rows.years(0, 61, 3));
        for (int odd : ODD) {
            CHECK.illegal("years n " + odd, () -> rows.years(odd, odd, 0));
            CHECK.noSuch("years what " + odd, () -> rows.years(odd, odd, odd));
        }
    }

    /** How many times by a seed nothing is told ahead of the first load. */
    private static int drawsNothing(int first) {
        int seed = first;
        for (int i = 0; i < 60; i++) {
            seed = seed * 1103515245 + 12345;
            if ((seed >>> 16 & 32767) % 4 == 0) {
                return i;
            }
        }
        return 60;
    }

    private static void nothingChanges() {
        HeatGovernor g = Check.told(SWINGS.replace("trip 0 hot", "trip 0 critical"));
        g.minutes(1);
        g.ahead(0, 200, 0);
        g.bears(0, 60, 0);
        g.bears(0, 60, 1);
        g.flips(0, 200);
        g.years(1, 60, 0);
        g.note(0, 0, 230);
        g.fits(0, 0);
        g.look(0, 0);
        for (int what = 9; what < 13; what++) {
            g.count(what);
        }
        CHECK.row("all stays", new int[] {g.count(5), g.zone(0, 0), g.zone(0, 3), g.zone(0, 4), g.zone(0, 7), g.count(13),
                g.count(14), g.device(0, 3), g.trip(1, 5)}, 1, 230, 30, 50, 0, 1, 1, 20, 0);
    }
}
