/** Promises 1 (a new object), 2 (feed), 3 (plan) and 4 (fault). */
public final class TextTest {
    private static final Check CHECK = new Check();

    public static void main(String[] args) {
        newObject();
        tape();
        wholeText();
        filters();
        tokens();
        misplaced();
        tooMuch();
        notTold();
        clashes();
        firstFaultAlongTheText();
        faultLeavesAll();
        planIsAnew();
        CHECK.end();
    }

    private static void newObject() {
        HeatGovernor g = new HeatGovernor();
        int[] due = {0, 0, 0, 0, 0, 0, 0, 0, 0, -1, -1, -1, 1, 0, 0, 0, 0, 0, 0, 0};
        for (int what = 0; what < due.length; what++) {
            CHECK.same("new: count(" + what + ")", g.count(what), due[what]);
        }
        CHECK.same("new: fault", g.fault(), -1);
        CHECK.same("new: restore", g.restore() ? 1 : 0, 0);
        CHECK.noSuch("new: zone", () -> g.zone(0, 0));
        CHECK.noSuch("new: trip", () -> g.trip(0, 0));
        CHECK.noSuch("new: device", () -> g.device(0, 0));
        CHECK.same("new: minutes", g.minutes(60), 60);
    }

    private static void tape() {
        HeatGovernor g = new HeatGovernor();
        for (int i = 1; i <= 35; i++) {
            CHECK.same("feed " + i, g.feed(0x20202020, 0x0a0a0a0a, 0x20202020, 0x20202020, 0x20202020), 20 * i);
        }
        CHECK.same("feed beyond 700", g.feed(0, 0, 0, 0, 0), -1);
        CHECK.same("tape is full", g.count(16), 700);
        CHECK.illegal("plan(701)", () -> g.plan(701));
        CHECK.illegal("plan(-1)", () -> g.plan(-1));
        CHECK.illegal("plan(least)", () -> g.plan(Integer.MIN_VALUE));
        CHECK.illegal("plan(greatest)", () -> g.plan(Integer.MAX_VALUE));
        CHECK.same("tape stays", g.count(16), 700);
        CHECK.same("blanks alone are a text", g.plan(700), 0);
        CHECK.same("tape is empty then", g.count(16), 0);
        CHECK.illegal("plan(1) of none", () -> g.plan(1));
        CHECK.same("plan(0) of none", g.plan(0), 0);
        // Of each number the highest byte first: "zone", " 5 7", ";   ".
        g.feed(0x7a6f6e65, 0x20352037, 0x3b202020, 0x41414141, 0xffffffff);
        CHECK.same("a part of the tape", g.plan(10), 0);
        CHECK.same("its load", g.zone(0, 3), 5);
        CHECK.same("its leak", g.zone(0, 4), 7);
        CHECK.same("the rest is gone, too", g.count(16), 0);
    }

    private static void wholeText() {
        HeatGovernor g = Check.told("zone 0 1;zone 99 50 slow 4;trip 1 hot 200 0;trip 0 critical 999 99;trip 1 step 300 5;"
                + "trip 0 share 400 6;device fan 0 1 1;device valve 1 9 30;device pump 1 4 7;bind 2 1 9;bind 3 1 2;"
                + "bind 2 0 1;wall 0 1 50;wall 1 0 1;wall 0 1 50;foreseen 9;");
        CHECK.row("counts", new int[] {g.count(0), g.count(1), g.count(2), g.count(3), g.count(4), g.count(6)},
                2, 4, 3, 3, 3, 9);
        CHECK.row("zone 1", new int[] {g.zone(1, 3), g.zone(1, 4), g.zone(1, 5), g.zone(1, 6)}, 99, 50, 3, 4);
        int[][] trips = {{1, 2, 200, 0}, {0, 3, 999, 99}, {1, 0, 300, 5}, {0, 1, 400, 6}};
        for (int t = 0; t < 4; t++) {
            CHECK.row("trip " + t, new int[] {g.trip(t, 0), g.trip(t, 1), g.trip(t, 2), g.trip(t, 3)}, trips[t]);
        }
        int[][] devices = {{0, 0, 1, 1}, {1, 1, 9, 30}, {2, 1, 4, 7}};
        for (int d = 0; d < 3; d++) {
            CHECK.row("device " + d, new int[] {g.device(d, 0), g.device(d, 1), g.device(d, 2), g.device(d, 3)},
                    devices[d]);
        }
        CHECK.row("weights", new int[] {g.bind(2, 1, 0), g.bind(3, 1, 0), g.bind(2, 0, 0), g.bind(2, 2, 0)}, 9, 2, 1, 0);
        CHECK.row("bound", new int[] {g.trip(0, 7), g.trip(1, 7), g.trip(2, 7), g.trip(3, 7)}, 0, 0, 2, 1);
    }

    private static void filters() {
        String[] words = {"", "mean", "median", "slow"};
        for (int kind = 0; kind < 4; kind++) {
            HeatGovernor g = Check.told("zone 1 1 " + words[kind] + ";");
            CHECK.row("filter " + kind, new int[] {g.zone(0, 5), g.zone(0, 6)}, kind, kind == 0 ? 1 : 3);
            for (int depth = 1; depth <= 4 && kind > 0; depth++) {
                HeatGovernor deep = Check.told("zone 1 1 " + words[kind] + depth + ";");
                CHECK.row("filter " + kind, new int[] {deep.zone(0, 5), deep.zone(0, 6)}, kind, depth);
            }
        }
    }

    private static void tokens() {
        CHECK.fault("", 0, -1);
        CHECK.fault("  \n ", 0, -1);
        CHECK.fault("zone1 2;zone3 4mean;zone5 6median2;", 0, -1);
        CHECK.fault("zone\n001\n02\n;", 0, -1);
        CHECK.fault("foreseen 009;", 0, -1);
        CHECK.fault("zone 0001 2;", 2, 5);
        CHECK.fault("zone 12345678901234567890 2;", 2, 5);
        CHECK.fault("zone 1\t2;", 1, 6);
        CHECK.fault("zone 1 2;\0", 1, 9);
        CHECK.fault("zone 1 2;\u00e9", 1, 9);
        CHECK.fault("zone 1 2:", 1, 8);
        CHECK.fault("Zone 1 2;", 1, 0);
        CHECK.fault("zonE 1 2;", 1, 0);
        CHECK.fault("zone -1 2;", 1, 5);
    }

    private static void misplaced() {
        CHECK.fault(";", 1, 0);
        CHECK.fault(" 5", 1, 1);
        CHECK.fault("zones 1 2;", 1, 0);
        CHECK.fault("zon 1 2;", 1, 0);
        CHECK.fault("mean", 1, 0);
        CHECK.fault("zone", 1, 4);
        CHECK.fault("zone ", 1, 5);
        CHECK.fault("zone 1", 1, 6);
        CHECK.fault("zone 1 2  ", 1, 10);
        CHECK.fault("zone 1 2 mean \n", 1, 15);
        CHECK.fault("zone 1 2 mean 2", 1, 15);
        CHECK.fault("zone 1 2 3;", 1, 9);
        CHECK.fault("zone 1 2 2000;", 1, 9);
        CHECK.fault("zone 1 2 raw;", 1, 9);
        CHECK.fault("zone 1 2 mean slow;", 1, 14);
        CHECK.fault("zone 1 2 mean 2 2;", 1, 16);
        CHECK.fault("zone one 2;", 1, 5);
        CHECK.fault("zone 1 2;trip step;", 1, 14);
        CHECK.fault("zone 1 2;trip 0 300 0;", 1, 16);
        CHECK.fault("zone 1 2;trip 0 fan 300 0;", 1, 16);
        CHECK.fault("zone 1 2;trip 0 hot 300;", 1, 23);
        CHECK.fault("zone 1 2;device step 0 1 1;", 1, 16);
        CHECK.fault("zone 1 2;device fan pump 1 1;", 1, 20);
        CHECK.fault("zone 1 2;device fan 0 1 1 1;", 1, 26);
        CHECK.fault("bind ;", 1, 5);
        CHECK.fault("wall 0", 3, 5);
        CHECK.fault("foreseen;", 1, 8);
        CHECK.fault("foreseen 1", 1, 10);
    }

    private static void tooMuch() {
        CHECK.fault("zone 99 50;", 0, -1);
        CHECK.fault("zone 100 50;", 2, 5);
        CHECK.fault("zone 99 51;", 2, 8);
        CHECK.fault("zone 0 0;", 2, 7);
        CHECK.fault("zone 0 1 mean 0;", 2, 14);
        CHECK.fault("zone 0 1 slow 5;", 2, 14);
        CHECK.fault("zone 0 1 slow 1000;", 2, 14);
        String zone = "zone 1 2;";
        CHECK.fault(zone + "trip 5 hot 300 0;", 2, 14);
        CHECK.fault(zone + "trip 0 hot 199 0;", 2, 20);
        CHECK.fault(zone + "trip 0 hot 1000 0;", 2, 20);
        CHECK.fault(zone + "trip 0 hot 300 100;", 2, 24);
        CHECK.fault(zone + "device fan 5 1 1;", 2, 20);
        CHECK.fault(zone + "device fan 0 0 1;", 2, 22);
        CHECK.fault(zone + "device fan 0 10 1;", 2, 22);
        CHECK.fault(zone + "device fan 0 1 0;", 2, 24);
        CHECK.fault(zone + "device fan 0 1 31;", 2, 24);
        CHECK.fault("bind 10 0 1;", 2, 5);
        CHECK.fault("wall 5 0 1;", 2, 5);
        String bound = zone + "trip 0 step 300 0;device fan 0 1 1;bind 0 ";
        CHECK.fault(bound + "6 1;", 2, bound.length());
        CHECK.fault(bound + "0 0;", 2, bound.length() + 2);
        CHECK.fault(bound + "0 10;", 2, bound.length() + 2);
        CHECK.fault(zone + zone + "wall 0 1 0;", 2, 27);
        CHECK.fault(zone + zone + "wall 0 1 51;", 2, 27);
        CHECK.fault("foreseen 10;", 2, 9);
        many(zone, "", 5);
        many("trip 0 hot 300 0;", zone, 10);
        many("device fan 0 1 1;", zone, 6);
        many("wall 0 1 9;", zone + zone, 8);
    }

    /** So many of a clause may be; one more is a fault at its word, whatever comes behind. */
    private static void many(String clause, String ahead, int most) {
        String text = ahead + clause.repeat(most);
        CHECK.fault(text, 0, -1);
        CHECK.fault(text + clause, 2, text.length());
        CHECK.fault(text + clause.substring(0, clause.indexOf(' ')), 2, text.length());
    }

    private static void notTold() {
        CHECK.fault("trip 0 hot 300 0;", 3, 5);
        CHECK.fault("zone 1 2;trip 1 hot 300 0;zone 1 2;", 3, 14);
        CHECK.fault("zone 1 2;device fan 4 1 1;", 3, 20);
        CHECK.fault("zone 1 2;wall 0 1 5;", 3, 16);
        CHECK.fault("bind 0 0 1;", 3, 5);
        CHECK.fault("bind 9 0 1;", 3, 5);
        String trip = "zone 1 2;trip 0 step 300 0;";
        CHECK.fault(trip + "bind 0 0 1;", 3, trip.length() + 7);
        CHECK.fault(trip + "device fan 0 1 1;bind 0 5 1;", 3, trip.length() + 24);
    }

    private static void clashes() {
        String zones = "zone 1 2;zone 1 2;";
        CHECK.fault(zones + "wall 1 1 5;", 4, 25);
        CHECK.fault("foreseen 0;foreseen 1;", 4, 11);
        CHECK.fault("foreseen 0;foreseen", 4, 11);
        CHECK.fault(zones + "trip 0 critical 300 0;trip 1 critical 300 0;", 0, -1);
        String critical = zones + "trip 1 critical 300 0;";
        CHECK.fault(critical + "trip 1 critical 300 0;", 4, critical.length() + 7);
        String trips = zones + "trip 0 hot 300 0;trip 0 critical 300 0;trip 0 share 300 0;trip 0 step 300 0;"
                + "device fan 0 1 1;device fan 0 1 1;";
        int end = trips.length();
        CHECK.fault(trips + "bind 0 0 1;", 4, end + 5);
        CHECK.fault(trips + "bind 1 0 1;", 4, end + 5);
        CHECK.fault(trips + "bind 2 0 1;bind 2 1 1;bind 3 0 1;", 0, -1);
        CHECK.fault(trips + "bind 2 1 1;bind 2 0 1;bind 2 1 3;", 4, end + 29);
    }

    private static void firstFaultAlongTheText() {
        CHECK.fault("wall 0 5 99;;zone", 3, 5);
        CHECK.fault("zone 100 99 ! ;", 2, 5);
        CHECK.fault("zone 1 2;trip 0 hot 300 0;bind 0 9 0;", 4, 31);
    }

    private static void faultLeavesAll() {
        HeatGovernor g = Check.told("zone 20 10;trip 0 critical 300 0;");
        g.image();
        g.minutes(3);
        g.note(0, 1, 5);
        CHECK.same("a text with a fault", Check.plan(g, "zone 1 2;zone;"), 1);
        CHECK.row("all stays", new int[] {g.count(0), g.zone(0, 3), g.count(5), g.count(14), g.count(15), g.count(16),
                g.count(17), g.fault()}, 1, 20, 3, 1, 1, 0, 1, 13);
        CHECK.illegal("plan(1)", () -> g.plan(1));
        CHECK.row("nothing changes", new int[] {g.count(17), g.fault()}, 1, 13);
        CHECK.same("the image stays", g.restore() ? 1 : 0, 1);
    }

    private static void planIsAnew() {
        HeatGovernor g = Check.told("zone 20 10;trip 0 critical 300 0;foreseen 3;");
        g.minutes(9);
        g.note(0, 1, 5);
        g.note(0, 61, 5);
        g.minutes(0);
        g.image();
        Check.plan(g, "x");
        CHECK.same("a log", g.count(13) > 0 ? 1 : 0, 1);
        CHECK.same("a text without a fault", Check.plan(g, "zone 7 8;"), 0);
        CHECK.row("all anew", new int[] {g.count(1), g.count(5), g.count(6), g.count(7), g.count(13), g.count(14),
                g.count(15), g.fault()}, 0, 0, 0, 0, 0, 0, 0, -1);
        CHECK.row("zone", new int[] {g.zone(0, 0), g.zone(0, 1), g.zone(0, 2), g.zone(0, 3)}, 200, 200, 0, 7);
        CHECK.row("calls refused still count", new int[] {g.count(17), g.count(18), g.count(19)}, 1, 1, 1);
        CHECK.same("the image is gone", g.restore() ? 1 : 0, 0);
        CHECK.same("acts are gone", g.undo(), -1);
    }
}
