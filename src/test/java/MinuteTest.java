/** A MINUTE, as promises 5 (count), 6 (zone), 7 (trip), 8 (device), 9 (bind), 10 (log) and 14 (minutes) show it. */
public final class MinuteTest {
    private static final Check CHECK = new Check();

    public static void main(String[] args) {
        heatLeaks();
        heatIsHeld();
        wallsPassHeat();
        filters();
        tripsFlip();
        steps();
        shares();
        shareWithoutDevices();
        devicesMove();
        criticalShuts();
        foreseenShuts();
        foreseenNeedsAll();
        margins();
        logOfOneMinute();
        logIsLimited();
        asMuchAsMayBe();
        wrongInputs();
        CHECK.end();
    }

    private static void heatLeaks() {
        HeatGovernor g = Check.told("zone 20 10;");
        // 200, and 20 less (HEAT - 200) / 10.
        CHECK.row("heats", Check.seen(g, 6, () -> g.zone(0, 0)), 220, 238, 255, 270, 283, 295);
        HeatGovernor cold = Check.told("zone 0 7;device valve 0 1 30;");
        cold.hold(0, 1);
        cold.minutes(2);
        // 170: (170 - 200) / 7 goes downwards to -5: 170 + 5 - 30.
        CHECK.row("below 200", new int[] {cold.zone(0, 0), cold.ahead(0, 1, 0)}, 170, 145);
    }

    private static void heatIsHeld() {
        HeatGovernor swings = Check.told("zone 99 1;zone 99 50;wall 0 1 1;wall 0 1 1;wall 0 1 1;wall 0 1 1;");
        CHECK.same("held at 1500", swings.bears(0, 60, 0), 1500);
        int least = 1500;
        for (int n = 1; n <= 60; n++) {
            least = Math.min(least, swings.ahead(0, n, 0));
        }
        CHECK.same("held at 0", least, 0);
    }

    private static void wallsPassHeat() {
        HeatGovernor g = Check.told("zone 10 50;zone 0 50;wall 1 0 4;");
        // 210 and 200: (200 - 210) / 4 goes downwards to -3: 3 from the second to the first one.
        CHECK.row("first", Check.seen(g, 2, () -> g.zone(0, 0)), 210, 217);
        CHECK.same("second", g.zone(1, 0), 203);
        HeatGovernor two = Check.told("zone 10 50;zone 0 50;wall 0 1 4;wall 0 1 5;");
        two.minutes(2);
        CHECK.row("two walls", new int[] {two.zone(0, 0), two.zone(1, 0)}, 216, 204);
    }

    private static void filters() {
        // HEATS: 220, 238, 255, 270, 283, 295.
        filter("mean 1", 220, 238, 255, 270, 283, 295);
        filter("mean 2", 210, 229, 246, 262, 276, 289);
        filter("mean", 206, 219, 237, 254, 269, 282);
        filter("mean 4", 205, 214, 228, 245, 261, 275);
        filter("median 1", 220, 238, 255, 270, 283, 295);
        filter("median 2", 200, 220, 238, 255, 270, 283);
        filter("median 3", 200, 220, 238, 255, 270, 283);
        filter("median 4", 200, 200, 220, 238, 255, 270);
        filter("slow 1", 220, 238, 255, 270, 283, 295);
        filter("slow 2", 210, 224, 239, 254, 268, 281);
        filter("slow 4", 205, 213, 223, 234, 246, 258);
        HeatGovernor beside = Check.told("zone 99 50;zone 20 10 mean 4;zone 99 50;zone 20 10 median 4;");
        CHECK.row("each by its own readings", Check.seen(beside, 6, () -> beside.zone(1, 1)), 205, 214, 228, 245, 261, 275);
        CHECK.same("and the fourth", beside.zone(3, 1), 270);
        HeatGovernor falls = Check.told("zone 0 50 slow 3;device valve 0 1 10;");
        falls.hold(0, 1);
        falls.minutes(2);
        // 190: (190 - 200) / 3 goes downwards to -4.
        CHECK.row("slow goes downwards", new int[] {falls.zone(0, 0), falls.zone(0, 1), falls.zone(0, 2)}, 190, 196, -4);
    }

    private static void filter(String filter, int... due) {
        HeatGovernor g = Check.told("zone 20 10 " + filter + ";");
        CHECK.row(filter, Check.seen(g, due.length, () -> g.zone(0, 1)), due);
        CHECK.same(filter + ": slope", g.zone(0, 2), due[due.length - 1] - due[due.length - 2]);
    }

    private static void tripsFlip() {
        HeatGovernor g = Check.told("zone 20 10;trip 0 hot 238 3;trip 0 hot 239 0;trip 0 hot 200 0;");
        CHECK.row("AT is enough", Check.seen(g, 3, () -> g.count(8)), 4, 5, 7);
        g.load(0, 0);
        // 255, 250, 245, 241, 237, 234.
        CHECK.row("AT less DROP is not below", Check.seen(g, 5, () -> g.count(8)), 7, 7, 7, 5, 4);
        g.load(0, 20);
        g.minutes(5);
        CHECK.row("each once a crossing", new int[] {g.trip(0, 5), g.trip(1, 5), g.trip(2, 5)}, 2, 2, 1);
        CHECK.row("rows", new int[] {g.count(13), g.log(0, 1), g.log(0, 3), g.log(1, 3)}, 7, 1, 1, 0);
    }

    private static void steps() {
        HeatGovernor g = Check.told("zone 30 50;trip 0 step 230 10;device valve 0 2 1;bind 0 0 5;");
        CHECK.row("one more each minute, MOST at most", Check.seen(g, 4, () -> g.bind(0, 0, 1)), 1, 2, 2, 2);
        g.load(0, 0);
        CHECK.row("one less, as it falls", Check.seen(g, 3, () -> g.bind(0, 0, 1)), 1, 0, 0);
        g.undo();
        g.undo();
        g.undo();
        CHECK.same("undone", g.bind(0, 0, 1), 2);
        // The slope comes to 0: it stays as ahead.
        HeatGovernor flat = Check.told("zone 3 50;trip 0 step 202 0;device fan 0 9 3;bind 0 0 1;");
        CHECK.row("temps", Check.seen(flat, 4, () -> flat.zone(0, 1)), 203, 203, 203, 203);
        CHECK.same("as ahead", flat.bind(0, 0, 1), 1);
        HeatGovernor off = Check.told("zone 50 50;trip 0 step 250 0;device valve 0 9 20;bind 0 0 1;");
        off.hold(0, 0);
        off.minutes(4);
        off.hold(0, 9);
        CHECK.row("held, but WANTED goes on", Check.seen(off, 3, () -> off.bind(0, 0, 1)), 5, 4, 3);
        CHECK.row("OFF", new int[] {off.zone(0, 1), off.trip(0, 4)}, 177, 0);
        off.hold(0, 0);
        off.minutes(1);
        CHECK.row("OFF and rising: one less", Check.seen(off, 3, () -> off.bind(0, 0, 1)), 1, 0, 0);
        CHECK.same("rising", off.zone(0, 2) > 0 ? 1 : 0, 1);
    }

    private static void shares() {
        String devices = "device valve 0 5 1;device valve 0 3 1;device valve 0 9 1;";
        HeatGovernor g = Check.told("zone 60 50;trip 0 share 300 20;" + devices + "bind 0 2 2;bind 0 1 1;bind 0 0 2;");
        g.minutes(2);
        shared(g, "the lesser of like ones first", 2, 1, 0, 1);
        g.minutes(1);
        shared(g, "by weights", 8, 4, 1, 3);
        g.minutes(1);
        shared(g, "MOST, and the rest to others", 13, 5, 2, 6);
        g.minutes(1);
        shared(g, "all there is", 17, 5, 3, 9);
        g.minutes(2);
        shared(g, "no more than all", 17, 5, 3, 9);
        fallingShare(devices);
        HeatGovernor far = Check.told("zone 99 50;trip 0 share 200 0;device fan 0 9 1;device fan 0 9 1;bind 0 0 1;bind 0 1 9;");
        // 299: ASKED 10: 1 and 9; 396: 20, 18 at most.
        far.minutes(1);
        CHECK.row("by weights", new int[] {far.trip(0, 6), far.bind(0, 0, 1), far.bind(0, 1, 1)}, 10, 1, 9);
        far.minutes(1);
        CHECK.row("round about", new int[] {far.trip(0, 6), far.bind(0, 0, 1), far.bind(0, 1, 1)}, 18, 9, 9);
    }

    private static void fallingShare(String devices) {
        HeatGovernor g = Check.told("zone 60 50;trip 0 share 300 20;" + devices + "bind 0 2 2;bind 0 1 1;bind 0 0 2;");
        g.minutes(2);
        g.load(0, 0);
        CHECK.row("temps", Check.seen(g, 6, () -> g.zone(0, 1)), 315, 311, 307, 304, 301, 298);
        shared(g, "below AT, but not by DROP: at least 1", 1, 1, 0, 0);
        g.minutes(9);
        CHECK.same("AT less DROP", g.zone(0, 1), 280);
        shared(g, "still ON", 1, 1, 0, 0);
        g.minutes(1);
        shared(g, "OFF", 0, 0, 0, 0);
    }

    private static void shared(HeatGovernor g, String what, int asked, int... wanted) {
        CHECK.same(what + ": asked", g.trip(0, 6), asked);
        CHECK.row(what, new int[] {g.bind(0, 0, 1), g.bind(0, 1, 1), g.bind(0, 2, 1)}, wanted);
    }

    private static void shareWithoutDevices() {
        HeatGovernor g = Check.told("zone 60 50;trip 0 share 200 0;trip 0 step 200 0;");
        g.minutes(3);
        CHECK.row("nothing bound", new int[] {g.trip(0, 4), g.trip(0, 6), g.trip(0, 7), g.trip(1, 6)}, 1, 0, 0, 0);
    }

    private static void devicesMove() {
        HeatGovernor g = Check.told("zone 0 50;device fan 0 4 1;device valve 0 4 1;device pump 0 4 1;");
        for (int d = 0; d < 3; d++) {
            g.hold(d, 3);
        }
        CHECK.row("up", Check.seen(g, 4, () -> states(g)), 133, 233, 333, 333);
        for (int d = 0; d < 3; d++) {
            g.hold(d, 1);
        }
        CHECK.row("down", Check.seen(g, 3, () -> states(g)), 212, 111, 111);
        CHECK.same("what cools", g.zone(0, 10), 3);
        for (int d = 0; d < 3; d++) {
            g.hold(d, -1);
        }
        g.minutes(1);
        CHECK.same("0 without", states(g), 0);
        HeatGovernor two = Check.told("zone 50 50;trip 0 step 200 0;trip 0 share 200 0;device valve 0 9 1;"
                + "bind 0 0 1;bind 1 0 1;");
        two.minutes(1);
        CHECK.row("the greatest", new int[] {two.bind(0, 0, 1), two.bind(1, 0, 1), two.device(0, 4), two.device(0, 6)},
                1, 6, 6, 6);
        two.hold(0, 2);
        two.minutes(1);
        CHECK.row("held", new int[] {two.device(0, 4), two.device(0, 5), two.device(0, 6)}, 2, 2, 9);
    }

    private static int states(HeatGovernor g) {
        return 100 * g.device(0, 4) + 10 * g.device(1, 4) + g.device(2, 4);
    }

    private static void criticalShuts() {
        HeatGovernor g = Check.told("zone 50 50;zone 50 5;trip 1 critical 250 20;trip 0 hot 250 0;foreseen 0;");
        g.minutes(1);
        CHECK.row("shut", new int[] {g.count(7), g.zone(0, 8), g.zone(1, 7), g.zone(1, 8)}, 2, 0, 1, 1);
        g.minutes(1);
        CHECK.row("no load then", new int[] {g.zone(0, 0), g.zone(1, 0), g.zone(1, 3)}, 299, 240, 50);
        g.minutes(40);
        CHECK.row("stays so", new int[] {g.count(7), g.trip(0, 4), g.trip(0, 5)}, 2, 0, 1);
    }

    private static void foreseenShuts() {
        // 220, 238, 255: 238 and 18 times 3 are 292; 255 and 17 times 3 are 306.
        HeatGovernor g = Check.told("zone 20 10;trip 0 critical 300 0;foreseen 3;");
        g.minutes(2);
        CHECK.same("not yet", g.zone(0, 7), 0);
        g.minutes(1);
        CHECK.row("foretold", new int[] {g.zone(0, 7), g.zone(0, 8), g.log(0, 0), g.log(0, 1), g.log(0, 2), g.log(0, 3),
                g.count(13)}, 1, 2, 2, 4, 0, 0, 1);
        HeatGovernor just = Check.told("zone 20 10;trip 0 critical 306 0;foreseen 3;");
        just.minutes(3);
        CHECK.same("AT is enough", just.zone(0, 8), 2);
        HeatGovernor both = Check.told("zone 99 10;trip 0 critical 299 0;foreseen 9;");
        both.minutes(1);
        CHECK.row("critical comes first", new int[] {both.zone(0, 8), both.count(13), both.log(0, 1)}, 1, 2, 3);
        HeatGovernor later = Check.told("zone 99 10;zone 0 50;wall 0 1 1;trip 1 critical 330 0;foreseen 9;");
        later.minutes(6);
        CHECK.row("not shut again", new int[] {later.trip(0, 4), later.zone(1, 8)}, 1, 2);
    }

    private static void foreseenNeedsAll() {
        String text = "zone 20 10;zone 0 50;trip 0 critical 300 0;device valve 0 3 1;device valve 0 2 1;device valve 1 9 1;"
                + "foreseen 9;";
        HeatGovernor g = Check.told(text);
        g.hold(0, 3);
        g.hold(1, 1);
        g.minutes(2);
        CHECK.same("a device is not at its MOST", g.zone(0, 7), 0);
        g.hold(1, 2);
        g.minutes(1);
        CHECK.same("each is", g.zone(0, 8), 2);
        HeatGovernor without = Check.told("zone 20 10;trip 0 hot 210 0;foreseen 9;");
        without.minutes(9);
        CHECK.same("no critical trip", without.count(7), 0);
        HeatGovernor flat = Check.told("zone 0 50;trip 0 critical 200 0;foreseen 9;");
        CHECK.same("at first it is OFF", flat.count(8), 0);
        flat.minutes(1);
        CHECK.same("critical at 200", flat.zone(0, 8), 1);
    }

    private static void margins() {
        HeatGovernor g = Check.told("zone 20 10;zone 0 50;trip 0 hot 240 0;trip 0 step 220 0;trip 1 hot 999 0;");
        CHECK.row("first", new int[] {g.zone(0, 9), g.zone(1, 9)}, 20, 799);
        g.minutes(1);
        CHECK.same("of those that are OFF", g.zone(0, 9), 20);
        g.minutes(2);
        CHECK.same("none", g.zone(0, 9), -1);
        CHECK.same("at its AT", Check.told("zone 0 50;trip 0 hot 200 0;").zone(0, 9), 0);
    }

    private static void logOfOneMinute() {
        HeatGovernor g = Check.told("zone 50 50;zone 50 50;trip 1 critical 250 0;trip 0 critical 250 0;trip 0 hot 210 0;");
        g.minutes(1);
        // Trips first, by trips; then what is shut, by trips.
        int[][] due = {{0, 3, 0, 1}, {0, 3, 1, 0}, {0, 1, 0, 2}, {0, 1, 0, 1}, {0, 1, 1, 0}};
        CHECK.same("rows", g.count(13), due.length);
        for (int ago = 0; ago < due.length; ago++) {
            CHECK.row("row " + ago, new int[] {g.log(ago, 0), g.log(ago, 1), g.log(ago, 2), g.log(ago, 3)}, due[ago]);
        }
    }

    private static void logIsLimited() {
        // TEMPS 230, 240, 230, 240 ..: the hot trip goes ON or OFF in each minute but the first one.
        HeatGovernor g = Check.told("zone 30 50;trip 0 step 230 0;device valve 0 9 20;bind 0 0 1;trip 0 hot 235 0;");
        g.minutes(39);
        CHECK.row("39 rows", new int[] {g.count(13), g.log(38, 0), g.log(38, 3), g.log(37, 0)}, 39, 0, 0, 1);
        g.minutes(21);
        CHECK.row("40 rows", new int[] {g.count(13), g.log(0, 0), g.log(0, 1), g.log(39, 0), g.log(39, 1)},
                40, 59, 1, 20, 2);
        CHECK.same("crossings", g.trip(1, 5), 30);
        CHECK.noSuch("log(40)", () -> g.log(40, 0));
    }

    /** Five zones, ten trips, six devices, eight walls: every question goes through. */
    private static void asMuchAsMayBe() {
        StringBuilder text = new StringBuilder();
        for (int i = 0; i < 5; i++) {
            text.append("zone").append(20 * i).append(" 20slow;");
        }
        for (int i = 0; i < 10; i++) {
            text.append("trip").append(i % 5).append(i < 5 ? "critical400 0;" : "share300 0;");
        }
        for (int i = 0; i < 6; i++) {
            text.append("device fan").append(i % 5).append(" 9 1;");
        }
        for (int i = 0; i < 6; i++) {
            text.append("bind9 ").append(i).append(" 2;");
        }
        for (int i = 0; i < 8; i++) {
            text.append("wall").append(i % 5).append(" ").append((i + 1) % 5).append(" 9;");
        }
        HeatGovernor g = Check.told(text.toString());
        CHECK.row("all told", new int[] {g.count(0), g.count(1), g.count(2), g.count(3), g.count(4)}, 5, 10, 6, 6, 8);
        g.minutes(6);
        CHECK.row("the last of each", new int[] {g.zone(4, 0) > 200 ? 1 : 0, g.trip(9, 4), g.trip(9, 7), g.device(5, 0)},
                1, 1, 6, 0);
        CHECK.same("shares come to what is asked", g.bind(9, 0, 1) + g.bind(9, 1, 1) + g.bind(9, 2, 1) + g.bind(9, 3, 1)
                + g.bind(9, 4, 1) + g.bind(9, 5, 1), g.trip(9, 6));
        for (int what = 7; what < 13; what++) {
            CHECK.same("count(" + what + ") is -1 or more", g.count(what) >= -1 ? 1 : 0, 1);
        }
        CHECK.row("the last zone", new int[] {g.ahead(4, 0, 0), g.look(4, 1) > 0 ? 1 : 0, g.years(1, 0, 1)},
                g.zone(4, 0), 1, g.count(7));
        CHECK.row("years, what cools", new int[] {g.years(1, 60, 0) > 0 ? 1 : 0, g.zone(0, 10)},
                1, g.device(0, 4) + g.device(5, 4));
        Check.plan(g, "zone 0 1;".repeat(5) + "trip 4 hot 999 0;".repeat(10) + "device fan 4 1 1;".repeat(6));
        CHECK.same("nothing moves", g.count(12), 1);
    }

    private static void wrongInputs() {
        HeatGovernor g = Check.told("zone 50 50;trip 0 step 250 0;device fan 0 9 20;bind 0 0 1;");
        g.minutes(1);
        int[] odd = {-1, Integer.MIN_VALUE, Integer.MAX_VALUE};
        for (int what : odd) {
            CHECK.noSuch("count(" + what + ")", () -> g.count(what));
            CHECK.noSuch("zone(0, " + what + ")", () -> g.zone(0, what));
            CHECK.noSuch("zone(" + what + ", 0)", () -> g.zone(what, 0));
            CHECK.noSuch("trip(0, " + what + ")", () -> g.trip(0, what));
            CHECK.noSuch("trip(" + what + ", 0)", () -> g.trip(what, 0));
            CHECK.noSuch("device(0, " + what + ")", () -> g.device(0, what));
            CHECK.noSuch("device(" + what + ", 0)", () -> g.device(what, 0));
            CHECK.noSuch("bind(0, 0, " + what + ")", () -> g.bind(0, 0, what));
            CHECK.noSuch("bind(" + what + ", 0, 0)", () -> g.bind(what, 0, 0));
            CHECK.noSuch("bind(0, " + what + ", 0)", () -> g.bind(0, what, 0));
            CHECK.noSuch("log(0, " + what + ")", () -> g.log(0, what));
            CHECK.noSuch("log(" + what + ", 0)", () -> g.log(what, 0));
        }
        CHECK.noSuch("count(20)", () -> g.count(20));
        CHECK.noSuch("zone(0, 11)", () -> g.zone(0, 11));
        CHECK.noSuch("zone(1, 0)", () -> g.zone(1, 0));
        CHECK.noSuch("trip(0, 8)", () -> g.trip(0, 8));
        CHECK.noSuch("trip(1, 0)", () -> g.trip(1, 0));
        CHECK.noSuch("device(0, 7)", () -> g.device(0, 7));
        CHECK.noSuch("device(1, 0)", () -> g.device(1, 0));
        CHECK.noSuch("bind(0, 0, 2)", () -> g.bind(0, 0, 2));
        CHECK.noSuch("log(0, 4)", () -> g.log(0, 4));
        CHECK.noSuch("log(1, 0)", () -> g.log(1, 0));
        CHECK.same("log(0, 0)", g.log(0, 0), 0);
    }
}
