/**
 * The edges of what is NOTED: each sentence of promises 20 (note) to 23 (forget) that names a boundary case, with
 * the calls beside it. A remark tells the promise and the sentence.
 */
public final class EdgeNotedTest {
    private static final Check CHECK = new Check();
    private static final int LEAST = Integer.MIN_VALUE;
    private static final int GREATEST = Integer.MAX_VALUE;

    public static void main(String[] args) {
        atMostEight();
        noSuchZone();
        notedMinutes();
        notedHeats();
        fitsWithoutAny();
        fitsTheLeastLeak();
        fitsTheGreatestLeak();
        fitsNone();
        fitsBehindNothing();
        fitsBehindSixty();
        fitsHeldHeats();
        fitsOfAnyZone();
        fitsAllElseAsNow();
        fitsWhats();
        lookBehindNothing();
        lookBehindTwenty();
        lookOfLikeOnes();
        lookNone();
        lookWhats();
        forgotten();
        CHECK.end();
    }

    /** A call that is refused: NONE, STATUS 2 is one more, and all else stays. */
    private static void refused(int zone, int minutes, int heat) {
        HeatGovernor g = Check.told("zone 20 10;zone 0 5;trip 0 hot 210 0;");
        g.minutes(1);
        g.note(1, 0, 200);
        String before = Check.everything(g);
        String what = "note(" + zone + ", " + minutes + ", " + heat + ")";
        CHECK.same(what, g.note(zone, minutes, heat), -1);
        CHECK.row(what + ": STATUS", new int[] {g.count(17), g.count(18), g.count(19)}, 0, 0, 1);
        CHECK.alike(what + ": all stays", Check.everything(g), before);
    }

    private static void taken(int zone, int minutes, int heat) {
        HeatGovernor g = Check.told("zone 20 10;zone 0 5;trip 0 hot 210 0;");
        String what = "note(" + zone + ", " + minutes + ", " + heat + ")";
        CHECK.same(what, g.note(zone, minutes, heat), 1);
        CHECK.row(what + ": NOTED, STATUS, no ACT", new int[] {g.count(15), g.count(19), g.count(14)}, 1, 0, 0);
    }

    // ---- promise 20

    /** Promise 20: "NOTED: how much is. NONE (STATUS 2): there are 8" (part 3: "NOTED (at most 8)"). */
    private static void atMostEight() {
        HeatGovernor g = Check.told("zone 1 9;");
        for (int i = 1; i <= 7; i++) {
            CHECK.same("noted", g.note(0, 0, 200), i);
        }
        CHECK.row("the eighth", new int[] {g.note(0, 0, 200), g.count(15), g.count(19), g.fits(0, 0)}, 8, 8, 0, 50);
        CHECK.row("the ninth", new int[] {g.note(0, 0, 1500), g.count(15), g.count(19), g.fits(0, 0)}, -1, 8, 1, 50);
        CHECK.row("nor one that is wrong by itself", new int[] {g.note(5, 0, 200), g.count(15), g.count(19)}, -1, 8, 2);
    }

    /** Promise 20: "NONE (STATUS 2): .. no such ZONE". */
    private static void noSuchZone() {
        taken(0, 1, 200);
        taken(1, 1, 200);
        refused(-1, 1, 200);
        refused(2, 1, 200);
        refused(LEAST, 1, 200);
        refused(GREATEST, 1, 200);
        CHECK.same("without ZONES", new HeatGovernor().note(0, 0, 200), -1);
    }

    /** Promise 20: "not 0 to 60" (part 3: "that AHEAD by so many MINUTES (0 to 60)"). */
    private static void notedMinutes() {
        taken(0, 0, 200);
        taken(0, 60, 200);
        refused(0, -1, 200);
        refused(0, 61, 200);
        refused(0, LEAST, 200);
        refused(0, GREATEST, 200);
    }

    /** Promise 20: "not 0 to 1500". */
    private static void notedHeats() {
        taken(0, 1, 0);
        taken(0, 1, 1500);
        refused(0, 1, -1);
        refused(0, 1, 1501);
        refused(0, 1, LEAST);
        refused(0, 1, GREATEST);
    }

    // ---- promise 21: by a LOAD of 1 a ZONE rises by 1 a minute, up to 200 and its LEAK

    /** Promise 21 (part 3): "LEAKS of it (1 to 50) by which .. all NOTED (of any ZONE) would be so" (nothing is NOTED). */
    private static void fitsWithoutAny() {
        HeatGovernor g = Check.told("zone 1 9;zone 0 50;");
        CHECK.row("all", new int[] {g.fits(0, 0), g.fits(0, 1), g.fits(1, 0), g.fits(1, 1)}, 50, 1, 50, 1);
    }

    /** Promise 21 (part 3): "LEAKS of it (1 to 50)" (1 alone; 2 alone). */
    private static void fitsTheLeastLeak() {
        HeatGovernor one = Check.told("zone 1 50;");
        one.note(0, 3, 201);
        CHECK.row("1", new int[] {one.fits(0, 0), one.fits(0, 1)}, 1, 1);
        HeatGovernor two = Check.told("zone 1 50;");
        two.note(0, 3, 202);
        CHECK.row("2", new int[] {two.fits(0, 0), two.fits(0, 1)}, 1, 2);
        HeatGovernor more = Check.told("zone 1 1;");
        more.note(0, 3, 203);
        CHECK.row("3 to 50", new int[] {more.fits(0, 0), more.fits(0, 1), more.zone(0, 4)}, 48, 3, 1);
    }

    /** Promise 21 (part 3): "LEAKS of it (1 to 50)" (50 alone; 49 alone; what would take 51). */
    private static void fitsTheGreatestLeak() {
        int[][] dues = {{249, 1, 49}, {250, 1, 50}, {251, 0, -1}};
        for (int[] due : dues) {
            HeatGovernor g = Check.told("zone 1 1;");
            g.note(0, 55, due[0]);
            CHECK.row("behind 55: " + due[0], new int[] {g.fits(0, 0), g.fits(0, 1)}, due[1], due[2]);
        }
    }

    /** Promise 21: "how many (what 0), the least (1; NONE)." */
    private static void fitsNone() {
        HeatGovernor g = Check.told("zone 1 50;");
        g.note(0, 3, 204);
        CHECK.row("none", new int[] {g.fits(0, 0), g.fits(0, 1)}, 0, -1);
        HeatGovernor two = Check.told("zone 1 50;");
        two.note(0, 3, 201);
        two.note(0, 3, 202);
        CHECK.row("not both at once", new int[] {two.fits(0, 0), two.fits(0, 1)}, 0, -1);
    }

    /** Promise 21 (part 3): "that AHEAD by so many MINUTES (0 to 60) a ZONE's HEAT is so" (by 0). */
    private static void fitsBehindNothing() {
        HeatGovernor g = Check.told("zone 1 50;");
        g.note(0, 0, 200);
        CHECK.row("as it is now", new int[] {g.fits(0, 0), g.fits(0, 1)}, 50, 1);
        g.minutes(1);
        CHECK.row("201 now", new int[] {g.fits(0, 0), g.fits(0, 1)}, 0, -1);
        g.undo();
        CHECK.same("200 again", g.fits(0, 0), 50);
        g.note(0, 0, 199);
        CHECK.same("never so", g.fits(0, 0), 0);
    }

    /** Promise 21 (part 3): "that AHEAD by so many MINUTES (0 to 60) a ZONE's HEAT is so" (by 60, and by 59). */
    private static void fitsBehindSixty() {
        // By a LOAD of 2: 2 a minute up to LEAK, then 1 a minute. By 49 and 50 that is 250 behind 25 MINUTES and 285
        // behind 60; by 47 and 48 it is 248 behind 24 and 284 behind 60.
        int[][] dues = {{59, 284, 2, 49}, {59, 285, 0, -1}, {60, 284, 2, 47}, {60, 285, 2, 49}, {60, 286, 0, -1}};
        for (int[] due : dues) {
            HeatGovernor g = Check.told("zone 2 50;");
            g.note(0, due[0], due[1]);
            CHECK.row("behind " + due[0] + ": " + due[1], new int[] {g.fits(0, 0), g.fits(0, 1)}, due[2], due[3]);
        }
    }

    /** Promise 21 (part 2): "it is held from 0 to 1500" (what is NOTED of such a HEAT). */
    private static void fitsHeldHeats() {
        HeatGovernor cold = Check.told("zone 0 50;device valve 0 9 30;");
        cold.hold(0, 9);
        cold.minutes(1);
        cold.note(0, 1, 0);
        CHECK.row("0 by each LEAK", new int[] {cold.fits(0, 0), cold.fits(0, 1)}, 50, 1);
        HeatGovernor warm = Check.told("zone 99 50;");
        warm.minutes(20);
        warm.note(0, 0, 1500);
        CHECK.same("1500 now", warm.fits(0, 0), 50);
        // 1500 and 99 less 1300 by LEAK: 1300 by 13 is 100, by 14 it is 92.
        warm.note(0, 1, 1500);
        CHECK.row("1500 behind 1", new int[] {warm.fits(0, 0), warm.fits(0, 1)}, 37, 14);
        HeatGovernor less = Check.told("zone 99 50;");
        less.minutes(20);
        less.note(0, 1, 1499);
        CHECK.row("1499 behind 1", new int[] {less.fits(0, 0), less.fits(0, 1)}, 1, 13);
    }

    /** Promise 21 (part 3): "all NOTED (of any ZONE) would be so". */
    private static void fitsOfAnyZone() {
        HeatGovernor g = Check.told("zone 1 50;zone 1 50;");
        g.note(1, 3, 203);
        CHECK.row("of the other one, as it is", new int[] {g.fits(0, 0), g.fits(1, 0), g.fits(1, 1)}, 50, 48, 3);
        g.note(1, 3, 202);
        CHECK.row("of the other one, as it is not", new int[] {g.fits(0, 0), g.fits(0, 1), g.fits(1, 0)}, 0, -1, 0);
        // Through a wall: zone 1 is 200 and what zone 0 is more, a minute later.
        HeatGovernor wall = Check.told("zone 1 50;zone 0 1;wall 0 1 1;");
        wall.note(1, 2, 201);
        CHECK.row("through a wall", new int[] {wall.fits(0, 0), wall.fits(0, 1)}, 50, 1);
        wall.note(1, 2, 202);
        CHECK.row("not both", new int[] {wall.fits(0, 0), wall.fits(0, 1)}, 0, -1);
    }

    /** Promise 21 (part 3): "all else as it is now" (the LOAD, and HEATS of now). */
    private static void fitsAllElseAsNow() {
        HeatGovernor g = Check.told("zone 2 50;");
        g.note(0, 1, 201);
        CHECK.same("202 by each", g.fits(0, 0), 0);
        g.load(0, 1);
        CHECK.same("201 by each", g.fits(0, 0), 50);
        g.minutes(1);
        // 201 and 1 less 1 by LEAK: 201 by 1 alone.
        CHECK.row("from 201", new int[] {g.fits(0, 0), g.fits(0, 1)}, 1, 1);
        CHECK.row("LEAK and HEAT are as they were", new int[] {g.zone(0, 4), g.zone(0, 0), g.count(5)}, 50, 201, 1);
    }

    /** Promise 21: "NoSuchElementException: also another what." */
    private static void fitsWhats() {
        HeatGovernor g = Check.told("zone 1 50;zone 1 50;");
        CHECK.row("what 0, what 1, the last ZONE", new int[] {g.fits(0, 0), g.fits(0, 1), g.fits(1, 1)}, 50, 1, 1);
        int[] beyond = {2, -1, LEAST, GREATEST};
        for (int n : beyond) {
            CHECK.noSuch("what " + n, () -> g.fits(0, n));
            CHECK.noSuch("zone " + n, () -> g.fits(n, 0));
            CHECK.noSuch("zone and what " + n, () -> g.fits(n, n));
        }
    }

    // ---- promise 22

    /** Promise 22 (part 3): "the MINUTES (0 to 20) behind which its HEAT is by these most unlike" (0). */
    private static void lookBehindNothing() {
        HeatGovernor flat = Check.told("zone 0 50;");
        CHECK.row("all alike all the time", new int[] {flat.fits(0, 0), flat.look(0, 0), flat.look(0, 1)}, 50, 0, 1);
        HeatGovernor one = Check.told("zone 1 50;");
        one.note(0, 3, 202);
        CHECK.row("one LEAK alone", new int[] {one.fits(0, 0), one.look(0, 0), one.look(0, 1)}, 1, 0, 1);
    }

    /** Promise 22 (part 3): "the MINUTES (0 to 20)" (20: they grow more unlike to the end, and behind it). */
    private static void lookBehindTwenty() {
        HeatGovernor g = Check.told("zone 1 50;");
        // Behind n MINUTES 200 and n, or 200 and LEAK if that is less: n unlike ones.
        CHECK.row("20", new int[] {g.look(0, 0), g.look(0, 1)}, 20, 20);
        HeatGovernor some = Check.told("zone 1 50;");
        some.note(0, 19, 219);
        // 19 to 50: behind 20 MINUTES 219 by 19, and 220 by all others.
        CHECK.row("two, behind 20", new int[] {some.fits(0, 0), some.fits(0, 1), some.look(0, 0), some.look(0, 1)}, 32, 19, 20, 2);
        HeatGovernor late = Check.told("zone 1 50;");
        late.note(0, 20, 220);
        // 20 to 50: unlike behind 21 MINUTES, which is too late to look.
        CHECK.row("21 is too late", new int[] {late.fits(0, 0), late.fits(0, 1), late.look(0, 0), late.look(0, 1)}, 31, 20, 0, 1);
    }

    /** Promise 22 (part 3): "(of like ones the least)". */
    private static void lookOfLikeOnes() {
        HeatGovernor g = Check.told("zone 20 10;");
        g.note(0, 2, 238);
        // By 7 to 10: behind 3 MINUTES 253, 254, 254, 255; behind 4 266, 268, 268, 270; behind 5 277, 280, 281, 283.
        CHECK.row("the least of those with four", new int[] {g.fits(0, 0), g.look(0, 0), g.look(0, 1)}, 4, 5, 4);
        // 201 without a LOAD: it is 200 behind a MINUTE by a LEAK of 1, and stays by all others.
        HeatGovernor two = Check.told("zone 1 50;");
        two.minutes(1);
        two.load(0, 0);
        CHECK.row("the least of 1 to 20", new int[] {two.fits(0, 0), two.look(0, 0), two.look(0, 1)}, 50, 1, 2);
    }

    /** Promise 22: "behind how many MINUTES (what 0; NONE), how many unlike (1; 0: none)." */
    private static void lookNone() {
        HeatGovernor g = Check.told("zone 1 50;");
        g.note(0, 0, 201);
        CHECK.row("no LEAK fits", new int[] {g.fits(0, 0), g.look(0, 0), g.look(0, 1)}, 0, -1, 0);
        g.forget();
        CHECK.row("all fit", new int[] {g.look(0, 0), g.look(0, 1)}, 20, 20);
        g.note(0, 60, 1500);
        CHECK.row("none by what is NOTED behind 20 MINUTES, too", new int[] {g.look(0, 0), g.look(0, 1)}, -1, 0);
    }

    /** Promise 22: "NoSuchElementException: also another what." */
    private static void lookWhats() {
        HeatGovernor g = Check.told("zone 1 50;zone 0 50;");
        CHECK.row("what 0, what 1, the last ZONE", new int[] {g.look(0, 0), g.look(0, 1), g.look(1, 1)}, 20, 20, 1);
        int[] beyond = {2, -1, LEAST, GREATEST};
        for (int n : beyond) {
            CHECK.noSuch("what " + n, () -> g.look(0, n));
            CHECK.noSuch("zone " + n, () -> g.look(n, 0));
            CHECK.noSuch("zone and what " + n, () -> g.look(n, n));
        }
    }

    // ---- promise 23

    /** Promise 23: "All that is NOTED is forgotten." (None, one, eight.) */
    private static void forgotten() {
        HeatGovernor g = Check.told("zone 1 50;");
        g.minutes(1);
        String before = Check.everything(g);
        g.forget();
        CHECK.alike("none: all stays", Check.everything(g), before);
        g.note(0, 0, 1500);
        g.forget();
        CHECK.alike("one: as before", Check.everything(g), before);
        for (int i = 0; i < 9; i++) {
            g.note(0, i, 1500);
        }
        CHECK.row("eight, and one refused", new int[] {g.count(15), g.count(19), g.fits(0, 0)}, 8, 1, 0);
        g.forget();
        CHECK.row("all of them", new int[] {g.count(15), g.fits(0, 0), g.count(19)}, 0, 50, 1);
        CHECK.row("no ACT", new int[] {g.count(14), g.undo(), g.count(15)}, 1, 0, 0);
        for (int i = 1; i <= 8; i++) {
            CHECK.same("room for eight again", g.note(0, 0, 200), i);
        }
    }
}
