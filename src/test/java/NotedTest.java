/** Promises 20 (note), 21 (fits), 22 (look) and 23 (forget), with STATUS 2. */
public final class NotedTest {
    private static final Check CHECK = new Check();

    public static void main(String[] args) {
        notes();
        fits();
        fitsByOtherZones();
        looks();
        fromNow();
        wrongInputs();
        CHECK.end();
    }

    private static void notes() {
        HeatGovernor g = Check.told("zone 20 10;zone 0 5;");
        CHECK.row("refused", new int[] {g.note(2, 0, 0), g.note(-1, 0, 0), g.note(0, -1, 0), g.note(0, 61, 0), g.note(0, 0, -1),
                g.note(0, 0, 1501), g.note(Integer.MAX_VALUE, Integer.MIN_VALUE, 5), g.count(15), g.count(19)},
                -1, -1, -1, -1, -1, -1, -1, 0, 7);
        for (int i = 1; i <= 8; i++) {
            CHECK.same("noted", g.note(i % 2, i % 2 == 0 ? 0 : 60, i % 2 == 0 ? 1500 : 0), i);
        }
        CHECK.row("there are 8", new int[] {g.note(0, 0, 200), g.count(15), g.count(19), g.count(18), g.count(14)}, -1, 8, 8, 0, 0);
        g.undo();
        CHECK.row("not undone", new int[] {g.count(15), g.fits(0, 0), g.look(1, 0)}, 8, 0, -1);
        g.forget();
        CHECK.row("forgotten", new int[] {g.count(15), g.fits(0, 0), g.note(0, 0, 200), g.count(19)}, 0, 50, 1, 8);
        g.forget();
        g.forget();
        CHECK.same("forgotten again", g.count(15), 0);
    }

    private static void fits() {
        HeatGovernor g = Check.told("zone 20 10;");
        CHECK.row("without any noted", new int[] {g.fits(0, 0), g.fits(0, 1)}, 50, 1);
        g.note(0, 0, 200);
        g.note(0, 1, 220);
        CHECK.row("as it is by each", new int[] {g.fits(0, 0), g.fits(0, 1)}, 50, 1);
        // 240 less 20 / LEAK is 238 by 7 to 10.
        g.note(0, 2, 238);
        CHECK.row("some", new int[] {g.fits(0, 0), g.fits(0, 1)}, 4, 7);
        // 258 less 38 / LEAK: 253, 254, 254, 255.
        g.note(0, 3, 254);
        CHECK.row("fewer", new int[] {g.fits(0, 0), g.fits(0, 1)}, 2, 8);
        g.note(0, 60, 1500);
        CHECK.row("none", new int[] {g.fits(0, 0), g.fits(0, 1), g.look(0, 0), g.look(0, 1)}, 0, -1, -1, 0);
        HeatGovernor now = Check.told("zone 20 10;");
        now.note(0, 0, 201);
        CHECK.row("not so now", new int[] {now.fits(0, 0), now.fits(0, 1)}, 0, -1);
    }

    private static void fitsByOtherZones() {
        HeatGovernor g = Check.told("zone 40 10;zone 0 50;zone 0 50;wall 0 1 10;");
        g.note(1, 1, 200);
        CHECK.same("by each", g.fits(0, 0), 50);
        // Zone 1 behind 3 MINUTES: 204 and (276 - 40 / LEAK - 204) / 10, which is 6 by LEAKS of 4 to 13.
        g.note(1, 3, 210);
        CHECK.row("by its wall", new int[] {g.fits(0, 0), g.fits(0, 1)}, 10, 4);
        CHECK.same("zone 2 has no part in it", g.fits(2, 0), 50);
        g.note(2, 5, 201);
        CHECK.row("never so", new int[] {g.fits(0, 0), g.fits(1, 0), g.fits(2, 0)}, 0, 0, 0);
    }

    private static void looks() {
        HeatGovernor g = Check.told("zone 20 10;");
        g.note(0, 2, 238);
        // By 7 to 10 behind 3: 253, 254, 254, 255; behind 5 all four unlike.
        CHECK.row("look", new int[] {g.look(0, 0), g.look(0, 1)}, 5, 4);
        g.note(0, 5, 283);
        CHECK.row("one fits: the least", new int[] {g.fits(0, 0), g.look(0, 0), g.look(0, 1)}, 1, 0, 1);
        HeatGovernor flat = Check.told("zone 0 10;");
        CHECK.row("all alike", new int[] {flat.look(0, 0), flat.look(0, 1)}, 0, 1);
        HeatGovernor far = Check.told("zone 20 10;");
        far.note(0, 60, far.ahead(0, 60, 0));
        int minutes = far.look(0, 0);
        CHECK.row("20 at most", new int[] {minutes >= 0 ? 1 : 0, minutes <= 20 ? 1 : 0}, 1, 1);
        // Unlike most at the very end: slow leaks come apart late.
        HeatGovernor late = Check.told("zone 1 50;");
        CHECK.row("slowly", new int[] {late.look(0, 0), late.look(0, 1)}, 20, 20);
    }

    private static void fromNow() {
        HeatGovernor g = Check.told("zone 20 10;");
        g.note(0, 2, 238);
        g.minutes(2);
        // From 238 by a LEAK of 2: 239, 240; by 1: 220, 220; by 3: 246, 251 and so on: never 238.
        CHECK.row("as it is now", new int[] {g.fits(0, 0), g.fits(0, 1)}, 0, -1);
        g.forget();
        g.note(0, 2, 240);
        CHECK.row("2 alone", new int[] {g.fits(0, 0), g.fits(0, 1)}, 1, 2);
        g.forget();
        g.note(0, 2, 238);
        g.undo();
        CHECK.same("as it was", g.fits(0, 0), 4);
    }

    private static void wrongInputs() {
        HeatGovernor g = Check.told("zone 20 10;");
        int[] odd = {Integer.MIN_VALUE, -1, 2, Integer.MAX_VALUE};
        for (int what : odd) {
            CHECK.noSuch("fits(0, " + what + ")", () -> g.fits(0, what));
            CHECK.noSuch("look(0, " + what + ")", () -> g.look(0, what));
            CHECK.noSuch("fits(" + what + ", 0)", () -> g.fits(what, 0));
            CHECK.noSuch("look(" + what + ", 0)", () -> g.look(what, 0));
        }
        CHECK.noSuch("fits(1, 0)", () -> g.fits(1, 0));
        CHECK.noSuch("look(1, 0)", () -> g.look(1, 0));
        CHECK.same("no call refused by that", g.count(19), 0);
    }
}
