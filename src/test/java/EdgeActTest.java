/**
 * The edges of ACTS and the image: each sentence of promises 14 (minutes) to 19 (undo), 25 (image) and 26 (restore)
 * that names a boundary case, with the calls beside it. A remark tells the promise and the sentence.
 */
public final class EdgeActTest {
    private static final Check CHECK = new Check();
    private static final int LEAST = Integer.MIN_VALUE;
    private static final int GREATEST = Integer.MAX_VALUE;

    public static void main(String[] args) {
        minutesTaken();
        minutesRefused();
        loadsTaken();
        loadsRefused();
        holdsTaken();
        holdsRefused();
        startsTaken();
        startsRefused();
        foreseesTaken();
        foreseesRefused();
        undoOfNone();
        undoOfOne();
        undoOfEachKind();
        actsAtMostForty();
        refusedIsNotKept();
        undoneLog();
        noImage();
        imageOfNothing();
        inPlaceOfAnotherOne();
        imageOfNoActs();
        imageOfAllActs();
        imageOfFewActs();
        imageOfNoted();
        imageOfStatus();
        imageStays();
        imageIsGone();
        CHECK.end();
    }

    private interface Act {
        int on(HeatGovernor g);
    }

    /** ZONE 1 is SHUT and its critical TRIP ON, ZONE 2 is SHUT and its OFF; DEVICE 0 is HELD at 2, LOAD 0 is 30. */
    private static HeatGovernor inTheMidst() {
        HeatGovernor g = Check.told("zone 20 50 mean 2;zone 9 50;zone 9 1;trip 0 step 210 0;trip 1 critical 209 0;"
                + "trip 2 critical 209 0;device valve 0 3 1;device fan 2 9 1;bind 0 0 1;foreseen 4;");
        g.foresee(0);
        g.minutes(2);
        g.hold(0, 2);
        g.load(0, 30);
        g.note(0, 1, 250);
        g.foresee(4);
        CHECK.row("in the midst", new int[] {g.count(7), g.trip(1, 4), g.trip(2, 4), g.count(14), g.count(18), g.count(19)},
                6, 1, 0, 5, 0, 0);
        return g;
    }

    /** A call that is refused: its answer, STATUS 1 is one more, and all else stays. */
    private static void refused(String what, int answer, Act act) {
        HeatGovernor g = inTheMidst();
        String before = Check.everything(g);
        CHECK.same(what, act.on(g), answer);
        CHECK.row(what + ": STATUS", new int[] {g.count(17), g.count(18), g.count(19)}, 0, 1, 0);
        CHECK.alike(what + ": all stays", Check.everything(g), before);
    }

    /** A call that is taken: its answer, one ACT more is kept, and it is UNDONE. */
    private static void taken(String what, int answer, Act act) {
        HeatGovernor g = inTheMidst();
        String before = Check.everything(g);
        CHECK.same(what, act.on(g), answer);
        CHECK.row(what + ": STATUS, ACTS", new int[] {g.count(18), g.count(14)}, 0, 6);
        CHECK.same(what + ": undone", g.undo(), 5);
        CHECK.alike(what + ": as it was", Check.everything(g), before);
    }

    // ---- promises 14 to 18

    /** Promise 14: "MINUTES go by: MINUTE then." (part 2: "MINUTES go by (1 to 60)"). */
    private static void minutesTaken() {
        taken("minutes(1)", 3, g -> g.minutes(1));
        taken("minutes(60)", 62, g -> g.minutes(60));
        HeatGovernor at = inTheMidst();
        HeatGovernor one = inTheMidst();
        at.minutes(60);
        for (int i = 0; i < 60; i++) {
            one.minutes(1);
        }
        CHECK.row("60 at once, one by one", new int[] {at.zone(0, 0), at.zone(0, 1), at.count(13), at.count(5)},
                one.zone(0, 0), one.zone(0, 1), one.count(13), one.count(5));
    }

    /** Promise 14: "NONE (STATUS 1): not 1 to 60." */
    private static void minutesRefused() {
        int[] beyond = {0, 61, -1, -60, LEAST, GREATEST};
        for (int n : beyond) {
            refused("minutes(" + n + ")", -1, g -> g.minutes(n));
        }
    }

    /** Promise 15: "A LOAD is told: what it was." (part 1: "a LOAD (0 to 99)"). */
    private static void loadsTaken() {
        taken("load(0, 0)", 30, g -> g.load(0, 0));
        taken("load(0, 99)", 30, g -> g.load(0, 99));
        taken("load(0, 29)", 30, g -> g.load(0, 29));
        taken("load(2, 10), of the last ZONE, which is SHUT", 9, g -> g.load(2, 10));
        HeatGovernor g = inTheMidst();
        CHECK.row("it is so", new int[] {g.load(0, 99), g.zone(0, 3), g.load(0, 0), g.zone(0, 3)}, 30, 99, 99, 0);
    }

    /** Promise 15: "NONE (STATUS 1): no such ZONE, not 0 to 99, it is so already." */
    private static void loadsRefused() {
        refused("load(-1, 5)", -1, g -> g.load(-1, 5));
        refused("load(3, 5)", -1, g -> g.load(3, 5));
        refused("load(least, 5)", -1, g -> g.load(LEAST, 5));
        refused("load(greatest, 5)", -1, g -> g.load(GREATEST, 5));
        refused("load(0, -1)", -1, g -> g.load(0, -1));
        refused("load(0, 100)", -1, g -> g.load(0, 100));
        refused("load(0, least)", -1, g -> g.load(0, LEAST));
        refused("load(0, greatest)", -1, g -> g.load(0, GREATEST));
        refused("load(0, 30), so already", -1, g -> g.load(0, 30));
        refused("load(1, 9), so by the text", -1, g -> g.load(1, 9));
    }

    /** Promise 16: "A DEVICE is HELD (state NONE: no more): what it was HELD at (NONE)." */
    private static void holdsTaken() {
        taken("hold(0, 0)", 2, g -> g.hold(0, 0));
        taken("hold(0, 3), its MOST", 2, g -> g.hold(0, 3));
        taken("hold(0, -1), no more", 2, g -> g.hold(0, -1));
        taken("hold(1, 0), which is not HELD", -1, g -> g.hold(1, 0));
        taken("hold(1, 9), its MOST", -1, g -> g.hold(1, 9));
        HeatGovernor g = inTheMidst();
        CHECK.row("it is so", new int[] {g.hold(0, 0), g.device(0, 5), g.hold(0, -1), g.device(0, 5), g.hold(0, 3), g.device(0, 5)},
                2, 0, 0, -1, -1, 3);
    }

    /** Promise 16: "-2 (STATUS 1): no such DEVICE, STATE, it is so already." */
    private static void holdsRefused() {
        refused("hold(-1, 0)", -2, g -> g.hold(-1, 0));
        refused("hold(2, 0)", -2, g -> g.hold(2, 0));
        refused("hold(2, -1)", -2, g -> g.hold(2, -1));
        refused("hold(least, 0)", -2, g -> g.hold(LEAST, 0));
        refused("hold(greatest, 0)", -2, g -> g.hold(GREATEST, 0));
        refused("hold(0, 4), above its MOST", -2, g -> g.hold(0, 4));
        refused("hold(1, 10), above its MOST", -2, g -> g.hold(1, 10));
        refused("hold(0, -2)", -2, g -> g.hold(0, -2));
        refused("hold(0, least)", -2, g -> g.hold(0, LEAST));
        refused("hold(0, greatest)", -2, g -> g.hold(0, GREATEST));
        refused("hold(0, 2), so already", -2, g -> g.hold(0, 2));
        refused("hold(1, -1), not HELD already", -2, g -> g.hold(1, -1));
    }

    /** Promise 17: "A ZONE is STARTED: its TEMP." (part 2: "if its critical TRIP is OFF (or it has none)"). */
    private static void startsTaken() {
        // 209 by a LEAK of 1 is 200 a minute later.
        taken("start(2)", 200, g -> g.start(2));
        // AT less DROP is 219: at 219 the TRIP is still ON, at 218 it is OFF.
        HeatGovernor g = Check.told("zone 20 50;trip 0 critical 220 1;device valve 0 9 1;");
        g.hold(0, 1);
        g.minutes(1);
        CHECK.row("220: SHUT", new int[] {g.zone(0, 1), g.zone(0, 7), g.start(0)}, 220, 1, -1);
        g.minutes(1);
        CHECK.row("219: ON", new int[] {g.zone(0, 1), g.trip(0, 4), g.start(0)}, 219, 1, -1);
        g.minutes(1);
        CHECK.row("218: OFF", new int[] {g.zone(0, 1), g.trip(0, 4), g.start(0)}, 218, 0, 218);
        // Foretold: its TRIP was never ON.
        HeatGovernor soon = Check.told("zone 19 50;trip 0 critical 220 0;foreseen 1;");
        soon.minutes(1);
        CHECK.row("foretold", new int[] {soon.zone(0, 8), soon.start(0), soon.zone(0, 8)}, 2, 219, 0);
    }

    /** Promise 17: "NONE (STATUS 1): no such ZONE, it isn't SHUT, its critical TRIP is ON." */
    private static void startsRefused() {
        refused("start(-1)", -1, g -> g.start(-1));
        refused("start(3)", -1, g -> g.start(3));
        refused("start(least)", -1, g -> g.start(LEAST));
        refused("start(greatest)", -1, g -> g.start(GREATEST));
        refused("start(0), not SHUT, without a critical TRIP", -1, g -> g.start(0));
        refused("start(1), its critical TRIP is ON", -1, g -> g.start(1));
        HeatGovernor g = inTheMidst();
        CHECK.row("not SHUT any more", new int[] {g.start(2), g.start(2), g.count(18), g.count(14)}, 200, -1, 1, 6);
    }

    /** Promise 18: "FORESEEN is told: what it was." (part 1: "FORESEEN (0 to 9; 0 without)"). */
    private static void foreseesTaken() {
        taken("foresee(0)", 4, g -> g.foresee(0));
        taken("foresee(9)", 4, g -> g.foresee(9));
        HeatGovernor g = Check.told("zone 9 9;");
        CHECK.row("0 without", new int[] {g.foresee(9), g.count(6), g.foresee(0), g.count(6)}, 0, 9, 9, 0);
    }

    /** Promise 18: "NONE (STATUS 1): not 0 to 9, it is so already." */
    private static void foreseesRefused() {
        int[] beyond = {-1, 10, 4, LEAST, GREATEST};
        for (int n : beyond) {
            refused("foresee(" + n + ")", -1, g -> g.foresee(n));
        }
        HeatGovernor g = Check.told("zone 9 9;");
        CHECK.row("0 already, without", new int[] {g.foresee(0), g.count(18), g.count(14)}, -1, 1, 0);
    }

    // ---- promise 19

    /** Promise 19: "NONE: there is none." */
    private static void undoOfNone() {
        HeatGovernor g = Check.told("zone 9 9;");
        String before = Check.everything(g);
        CHECK.row("none", new int[] {g.undo(), g.undo()}, -1, -1);
        CHECK.alike("all stays", Check.everything(g), before);
        CHECK.row("not a call that STATUS counts", new int[] {g.count(17), g.count(18), g.count(19)}, 0, 0, 0);
        CHECK.same("of nothing", new HeatGovernor().undo(), -1);
    }

    /** Promise 19: "The last ACT is UNDONE: how many are left." (One, two.) */
    private static void undoOfOne() {
        HeatGovernor g = Check.told("zone 9 9;");
        g.minutes(1);
        CHECK.row("one", new int[] {g.undo(), g.undo()}, 0, -1);
        g.load(0, 5);
        g.load(0, 6);
        CHECK.row("the last one first", new int[] {g.undo(), g.zone(0, 3), g.undo(), g.zone(0, 3), g.undo()}, 1, 5, 0, 9, -1);
    }

    /** Promise 19 (part 2): "They are UNDONE, the last one first." (Of each kind, and all that came of it.) */
    private static void undoOfEachKind() {
        HeatGovernor g = inTheMidst();
        int[] left = {g.undo(), g.count(6), g.undo(), g.zone(0, 3), g.undo(), g.device(0, 5), g.undo(), g.count(5), g.undo(),
            g.count(6), g.undo()};
        CHECK.row("back to the text", left, 4, 0, 3, 20, 2, -1, 1, 0, 0, 4, -1);
        g.forget();
        HeatGovernor text = Check.told("zone 20 50 mean 2;zone 9 50;zone 9 1;trip 0 step 210 0;trip 1 critical 209 0;"
                + "trip 2 critical 209 0;device valve 0 3 1;device fan 2 9 1;bind 0 0 1;foreseen 4;");
        CHECK.alike("as by the text", Check.everything(g), Check.everything(text));
    }

    /** Promise 19 (part 2): "ACTS (at most 40 are kept, the latest ones)". */
    private static void actsAtMostForty() {
        for (int acts = 39; acts <= 42; acts++) {
            HeatGovernor g = Check.told("zone 0 9;");
            for (int i = 1; i <= acts; i++) {
                g.load(0, i);
            }
            int kept = Math.min(acts, 40);
            CHECK.same("kept of " + acts, g.count(14), kept);
            for (int left = kept - 1; left >= 0; left--) {
                CHECK.row("undone", new int[] {g.undo(), g.zone(0, 3)}, left, acts - kept + left);
            }
            CHECK.row("none is left", new int[] {g.undo(), g.count(14), g.zone(0, 3)}, -1, 0, acts - kept);
        }
    }

    /** Promise 19 (part 2): "ACTS (at most 40 are kept, the latest ones)" (what is refused is none of them). */
    private static void refusedIsNotKept() {
        HeatGovernor g = Check.told("zone 0 9;");
        for (int i = 1; i <= 40; i++) {
            g.load(0, i);
        }
        g.load(0, 40);
        g.minutes(61);
        g.foresee(0);
        CHECK.row("40, and 3 refused", new int[] {g.count(14), g.count(18), g.undo(), g.zone(0, 3)}, 40, 3, 39, 39);
        for (int i = 0; i < 39; i++) {
            g.undo();
        }
        CHECK.row("the first one is kept, STATUS is not UNDONE", new int[] {g.zone(0, 3), g.count(18), g.undo()}, 0, 3, -1);
    }

    /** Promise 19: "The last ACT is UNDONE" (part 2: rows that THE LOG lost by it are there again). */
    private static void undoneLog() {
        // A row in each minute.
        HeatGovernor g = Check.told("zone 30 50;trip 0 step 230 0;device valve 0 9 20;bind 0 0 1;trip 0 hot 235 0;");
        g.minutes(40);
        String before = Check.everything(g);
        g.minutes(41);
        CHECK.row("40 others", new int[] {g.count(13), g.log(39, 0)}, 40, 41);
        g.undo();
        CHECK.row("the 40 of before", new int[] {g.count(13), g.log(0, 0), g.log(39, 0)}, 40, 39, 0);
        CHECK.alike("as it was", Check.everything(g), before);
    }

    // ---- promises 25 and 26

    /** Promise 26: "False: there is none." */
    private static void noImage() {
        CHECK.same("of nothing", new HeatGovernor().restore() ? 1 : 0, 0);
        HeatGovernor g = inTheMidst();
        String before = Check.everything(g);
        CHECK.same("none", g.restore() ? 1 : 0, 0);
        CHECK.alike("all stays", Check.everything(g), before);
        CHECK.row("not a call that STATUS counts", new int[] {g.count(17), g.count(18), g.count(19)}, 0, 0, 0);
    }

    /** Promise 25: "AN IMAGE is kept" (of an object to which nothing is told). */
    private static void imageOfNothing() {
        HeatGovernor g = new HeatGovernor();
        g.image();
        g.minutes(60);
        CHECK.row("as the IMAGE again", new int[] {g.restore() ? 1 : 0, g.count(5), g.count(14), g.count(0)}, 1, 0, 0, 0);
    }

    /** Promise 25: "AN IMAGE is kept, in place of another one." */
    private static void inPlaceOfAnotherOne() {
        HeatGovernor g = Check.told("zone 9 9;");
        g.image();
        g.minutes(1);
        g.image();
        g.minutes(1);
        CHECK.row("the second one", new int[] {g.restore() ? 1 : 0, g.count(5), g.restore() ? 1 : 0, g.count(5)}, 1, 1, 1, 1);
        CHECK.row("its ACT", new int[] {g.undo(), g.count(5)}, 0, 0);
        g.image();
        g.minutes(1);
        CHECK.row("the third one", new int[] {g.restore() ? 1 : 0, g.count(5), g.count(14)}, 1, 0, 0);
    }

    /** Promise 26: "It is as the IMAGE again: true." (part 3: "ACTS that are kept": none, while 40 are kept now). */
    private static void imageOfNoActs() {
        HeatGovernor g = Check.told("zone 0 9;");
        g.image();
        for (int i = 1; i <= 45; i++) {
            g.load(0, i);
        }
        CHECK.row("no ACT", new int[] {g.restore() ? 1 : 0, g.count(14), g.zone(0, 3), g.undo()}, 1, 0, 0, -1);
        CHECK.row("and one more", new int[] {g.load(0, 7), g.count(14), g.undo(), g.zone(0, 3)}, 0, 1, 0, 0);
    }

    /** Promise 26: "It is as the IMAGE again: true." (part 3: "ACTS that are kept": 40, while none is kept now). */
    private static void imageOfAllActs() {
        for (int acts = 40; acts <= 70; acts += 15) {
            HeatGovernor g = Check.told("zone 0 9;");
            for (int i = 1; i <= acts; i++) {
                g.load(0, i);
            }
            g.image();
            for (int i = 0; i < 40 && acts < 70; i++) {
                g.undo();
            }
            for (int i = 0; i < 45; i++) {
                g.foresee(1 + i % 9);
            }
            CHECK.row("all of them", new int[] {g.restore() ? 1 : 0, g.count(14), g.zone(0, 3), g.count(6)}, 1, 40, acts, 0);
            for (int left = 39; left >= 0; left--) {
                CHECK.row("undone", new int[] {g.undo(), g.zone(0, 3)}, left, acts - 40 + left);
            }
            CHECK.row("none is left", new int[] {g.undo(), g.zone(0, 3)}, -1, acts - 40);
        }
    }

    /** Promise 26: "It is as the IMAGE again: true." (part 3: "ACTS that are kept": 1 to 3, with others in their place now). */
    private static void imageOfFewActs() {
        for (int acts = 1; acts <= 3; acts++) {
            HeatGovernor g = Check.told("zone 0 9;");
            for (int i = 1; i <= acts; i++) {
                g.load(0, i);
            }
            g.image();
            for (int i = 0; i < acts; i++) {
                g.undo();
            }
            for (int i = 0; i < 45; i++) {
                g.load(0, 50 + i);
            }
            CHECK.row("as many", new int[] {g.restore() ? 1 : 0, g.count(14), g.zone(0, 3)}, 1, acts, acts);
            for (int left = acts - 1; left >= 0; left--) {
                CHECK.row("undone", new int[] {g.undo(), g.zone(0, 3)}, left, left);
            }
            CHECK.same("none is left", g.undo(), -1);
        }
    }

    /** Promise 26 (part 3): "AN IMAGE keeps all that ACTS change, ACTS that are kept, what is NOTED" (8, none). */
    private static void imageOfNoted() {
        HeatGovernor g = Check.told("zone 1 9;");
        for (int i = 0; i < 8; i++) {
            g.note(0, 2, 202);
        }
        g.image();
        g.forget();
        g.note(0, 0, 1500);
        CHECK.row("one that fits nothing", new int[] {g.count(15), g.fits(0, 0)}, 1, 0);
        // By a LEAK of 1 it is 201.
        CHECK.row("8", new int[] {g.restore() ? 1 : 0, g.count(15), g.fits(0, 0), g.note(0, 0, 200)}, 1, 8, 49, -1);
        g.forget();
        g.image();
        g.note(0, 0, 1500);
        CHECK.row("none", new int[] {g.restore() ? 1 : 0, g.count(15), g.fits(0, 0), g.note(0, 0, 200)}, 1, 0, 50, 1);
        // Of which ZONE, behind how many MINUTES and which HEAT: of each another one is NOTED in its place.
        int[][] others = {{0, 3, 202}, {1, 2, 202}, {1, 3, 203}};
        for (int[] other : others) {
            HeatGovernor two = Check.told("zone 1 50;zone 1 50;");
            two.note(1, 3, 202);
            two.image();
            two.forget();
            two.note(other[0], other[1], other[2]);
            CHECK.row("one of ZONE 1", new int[] {two.restore() ? 1 : 0, two.fits(0, 0), two.fits(1, 0), two.fits(1, 1)},
                    1, 0, 1, 2);
        }
    }

    /** Promise 26 (part 3): "AN IMAGE keeps .. STATUS." (0, and more.) */
    private static void imageOfStatus() {
        HeatGovernor g = Check.told("zone 9 9;");
        g.image();
        refuseOneOfEach(g);
        CHECK.row("one of each", new int[] {g.count(17), g.count(18), g.count(19)}, 1, 1, 1);
        CHECK.row("none", new int[] {g.restore() ? 1 : 0, g.count(17), g.count(18), g.count(19)}, 1, 0, 0, 0);
        refuseOneOfEach(g);
        refuseOneOfEach(g);
        g.image();
        refuseOneOfEach(g);
        CHECK.row("two of each", new int[] {g.restore() ? 1 : 0, g.count(17), g.count(18), g.count(19)}, 1, 2, 2, 2);
    }

    private static void refuseOneOfEach(HeatGovernor g) {
        Check.plan(g, "?");
        g.minutes(0);
        g.note(0, 61, 0);
    }

    /** Promise 26: "It is as the IMAGE again: true." (Again and again; the IMAGE is apart from what goes on.) */
    private static void imageStays() {
        HeatGovernor g = inTheMidst();
        String before = Check.everything(g);
        g.image();
        for (int i = 0; i < 2; i++) {
            g.minutes(60);
            g.start(2);
            g.hold(1, 9);
            g.load(1, 77);
            g.foresee(1);
            g.forget();
            for (int undone = 0; undone < 7 * i; undone++) {
                g.undo();
            }
            CHECK.same("restored", g.restore() ? 1 : 0, 1);
            CHECK.alike("as the IMAGE", Check.everything(g), before);
        }
        CHECK.row("and its ACTS", new int[] {g.undo(), g.count(6), g.undo(), g.zone(0, 3)}, 4, 0, 3, 20);
    }

    /** Promise 3: "the image are gone" and "(all stays, but STATUS)", as promise 26 shows them. */
    private static void imageIsGone() {
        HeatGovernor g = Check.told("zone 9 9;");
        g.image();
        Check.plan(g, "zone 9 99;");
        CHECK.row("a FAULT: it stays, with the STATUS of then", new int[] {g.restore() ? 1 : 0, g.count(17), g.fault()}, 1, 0, 7);
        CHECK.illegal("nothing changes", () -> g.plan(1));
        CHECK.same("it stays", g.restore() ? 1 : 0, 1);
        g.plan(0);
        CHECK.row("a TEXT: it is gone", new int[] {g.restore() ? 1 : 0, g.count(0)}, 0, 0);
    }
}
