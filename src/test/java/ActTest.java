/** ACTS: promises 14 (minutes) to 19 (undo), 25 (image) and 26 (restore), with STATUS 1. */
public final class ActTest {
    private static final Check CHECK = new Check();
    private static final String CRITICAL = "zone 20 10;trip 0 critical 300 0;";
    private static final int[] ODD = {Integer.MIN_VALUE, -3, Integer.MAX_VALUE};

    public static void main(String[] args) {
        minutes();
        loads();
        holds();
        starts();
        foresees();
        undoes();
        undoGivesAllBack();
        actsAreLimited();
        images();
        imageIsApart();
        imageKeepsItsActs();
        CHECK.end();
    }

    private static void minutes() {
        HeatGovernor g = Check.told(CRITICAL);
        CHECK.row("minutes", new int[] {g.minutes(1), g.minutes(60), g.minutes(0), g.minutes(61), g.minutes(-1), g.count(5)},
                1, 61, -1, -1, -1, 61);
        for (int n : ODD) {
            CHECK.same("minutes(" + n + ")", g.minutes(n), -1);
        }
        CHECK.row("refused, kept", new int[] {g.count(18), g.count(14)}, 6, 2);
    }

    private static void loads() {
        HeatGovernor g = Check.told("zone 20 10;zone 0 10;");
        CHECK.row("loads", new int[] {g.load(0, 99), g.load(0, 0), g.load(1, 7), g.zone(0, 3), g.zone(1, 3)}, 20, 99, 0, 0, 7);
        CHECK.row("refused", new int[] {g.load(0, 0), g.load(0, 100), g.load(0, -1), g.load(2, 5), g.load(-1, 5)},
                -1, -1, -1, -1, -1);
        for (int n : ODD) {
            CHECK.row("load", new int[] {g.load(n, 5), g.load(0, n)}, -1, -1);
        }
        CHECK.row("count", new int[] {g.count(18), g.count(14), g.zone(0, 3)}, 11, 3, 0);
        g.minutes(1);
        CHECK.row("told", new int[] {g.zone(0, 0), g.zone(1, 0)}, 200, 207);
    }

    private static void holds() {
        HeatGovernor g = Check.told("zone 20 10;device valve 0 3 2;device fan 0 9 1;");
        CHECK.row("holds", new int[] {g.hold(0, 0), g.hold(0, 3), g.hold(0, -1), g.device(0, 5), g.hold(0, 2), g.device(0, 5)},
                -1, 0, 3, -1, -1, 2);
        CHECK.row("refused", new int[] {g.hold(0, 2), g.hold(0, 4), g.hold(0, -2), g.hold(1, -1), g.hold(2, 1), g.hold(-1, 1)},
                -2, -2, -2, -2, -2, -2);
        for (int n : ODD) {
            CHECK.row("hold", new int[] {g.hold(n, 1), g.hold(0, n)}, -2, -2);
        }
        CHECK.row("count", new int[] {g.count(18), g.count(14), g.device(0, 4)}, 12, 4, 0);
        g.minutes(1);
        CHECK.row("moves in a minute", new int[] {g.device(0, 4), g.device(1, 4), g.zone(0, 10)}, 2, 0, 4);
    }

    private static void starts() {
        HeatGovernor g = Check.told(CRITICAL);
        CHECK.row("not shut", new int[] {g.start(0), g.start(1), g.start(-1)}, -1, -1, -1);
        for (int n : ODD) {
            CHECK.same("start", g.start(n), -1);
        }
        g.minutes(7);
        CHECK.row("its critical trip is ON", new int[] {g.zone(0, 7), g.start(0), g.count(18)}, 1, -1, 7);
        g.minutes(1);
        CHECK.row("its TEMP", new int[] {g.start(0), g.zone(0, 7), g.zone(0, 8)}, 296, 0, 0);
        CHECK.row("its row", new int[] {g.log(0, 0), g.log(0, 1), g.log(0, 2), g.log(0, 3)}, 8, 5, 0, -1);
        CHECK.row("again", new int[] {g.start(0), g.count(18), g.count(14)}, -1, 8, 3);
        g.minutes(1);
        CHECK.row("with its LOAD; shut again", new int[] {g.zone(0, 0), g.zone(0, 8), g.trip(0, 5)}, 307, 1, 2);
        HeatGovernor soon = Check.told("zone 20 10 mean 2;trip 0 critical 300 0;foreseen 3;");
        // TEMPS 210, 229, 246, 262.
        soon.minutes(4);
        CHECK.row("foretold, then started at once", new int[] {soon.zone(0, 8), soon.start(0), soon.zone(0, 8)}, 2, 262, 0);
    }

    private static void foresees() {
        HeatGovernor g = Check.told("zone 20 10;trip 0 critical 300 0;foreseen 4;");
        CHECK.row("foresees", new int[] {g.foresee(0), g.foresee(9), g.foresee(9), g.foresee(10), g.foresee(-1), g.count(6)},
                4, 0, -1, -1, -1, 9);
        for (int n : ODD) {
            CHECK.same("foresee", g.foresee(n), -1);
        }
        CHECK.row("count", new int[] {g.count(18), g.count(14), g.count(9)}, 6, 2, 1);
        g.foresee(0);
        CHECK.same("without", g.count(9), 7);
    }

    private static void undoes() {
        HeatGovernor g = Check.told("zone 20 10;device valve 0 3 1;");
        CHECK.same("none", g.undo(), -1);
        g.load(0, 5);
        g.hold(0, 3);
        g.foresee(2);
        g.minutes(2);
        CHECK.row("undone", new int[] {g.undo(), g.count(5), g.undo(), g.count(6), g.undo(), g.device(0, 5), g.undo(),
                g.zone(0, 3), g.undo()}, 3, 0, 2, 0, 1, -1, 0, 20, -1);
        CHECK.same("not a call refused", g.count(18), 0);
        g.load(0, 20);
        CHECK.same("what is refused is no act", g.undo(), -1);
        CHECK.same("STATUS is not undone", g.count(18), 1);
    }

    private static void undoGivesAllBack() {
        String text = "zone 30 50 mean 4;zone 9 20 slow 2;wall 0 1 9;trip 0 step 230 10;trip 0 share 240 0;trip 1 critical 215 9;"
                + "device fan 0 3 5;device pump 0 4 2;bind 0 0 1;bind 1 0 2;bind 1 1 1;";
        HeatGovernor g = Check.told(text);
        HeatGovernor same = Check.told(text);
        g.minutes(7);
        same.minutes(7);
        g.minutes(60);
        g.hold(0, 2);
        g.load(1, 99);
        g.foresee(9);
        g.minutes(60);
        for (int i = g.count(14); i > 1; i--) {
            g.undo();
        }
        CHECK.same("acts left", g.count(14), 1);
        alike("undone", g, same);
        g.minutes(9);
        same.minutes(9);
        alike("and on", g, same);
    }

    private static void alike(String what, HeatGovernor g, HeatGovernor due) {
        for (int i = 0; i < 20; i++) {
            CHECK.same(what + ": count " + i, g.count(i), due.count(i));
        }
        for (int i = 0; i < 11; i++) {
            CHECK.row(what + ": zones " + i, new int[] {g.zone(0, i), g.zone(1, i)}, due.zone(0, i), due.zone(1, i));
        }
        for (int i = 0; i < 8; i++) {
            CHECK.row(what + ": trips " + i, new int[] {g.trip(0, i), g.trip(1, i), g.trip(2, i)},
                    due.trip(0, i), due.trip(1, i), due.trip(2, i));
        }
        for (int i = 0; i < 7; i++) {
            CHECK.row(what + ": devices " + i, new int[] {g.device(0, i), g.device(1, i)}, due.device(0, i), due.device(1, i));
        }
        CHECK.row(what + ": binds", new int[] {g.bind(0, 0, 1), g.bind(1, 0, 1), g.bind(1, 1, 1)},
                due.bind(0, 0, 1), due.bind(1, 0, 1), due.bind(1, 1, 1));
        for (int ago = 0; ago < due.count(13); ago++) {
            CHECK.row(what + ": log " + ago, new int[] {g.log(ago, 0), g.log(ago, 1), g.log(ago, 2), g.log(ago, 3)},
                    due.log(ago, 0), due.log(ago, 1), due.log(ago, 2), due.log(ago, 3));
        }
    }

    private static void actsAreLimited() {
        HeatGovernor g = Check.told("zone 0 10;");
        for (int i = 1; i <= 45; i++) {
            g.load(0, i);
            CHECK.same("kept", g.count(14), Math.min(i, 40));
        }
        for (int i = 39; i >= 0; i--) {
            CHECK.row("undone", new int[] {g.undo(), g.zone(0, 3)}, i, 5 + i);
        }
        CHECK.row("the first five stay", new int[] {g.undo(), g.zone(0, 3)}, -1, 5);
        // Rows that THE LOG had lost are there again.
        HeatGovernor rows = Check.told("zone 30 50;trip 0 step 230 0;device valve 0 9 20;bind 0 0 1;trip 0 hot 235 0;");
        rows.minutes(30);
        rows.minutes(60);
        CHECK.row("log", new int[] {rows.count(13), rows.log(39, 0)}, 40, 50);
        rows.undo();
        CHECK.row("undone log", new int[] {rows.count(13), rows.log(29, 0), rows.log(0, 0), rows.trip(1, 5)}, 30, 0, 29, 15);
    }

    private static void images() {
        HeatGovernor g = Check.told(CRITICAL);
        CHECK.same("none", g.restore() ? 1 : 0, 0);
        g.minutes(2);
        g.note(0, 1, 7);
        g.note(5, 1, 7);
        g.minutes(0);
        Check.plan(g, "?");
        g.image();
        g.minutes(20);
        g.load(0, 9);
        g.foresee(3);
        g.forget();
        g.undo();
        g.undo();
        g.undo();
        g.undo();
        g.load(9, 9);
        g.note(9, 9, 9);
        Check.plan(g, "?");
        Check.feed(g, "zone");
        for (int i = 0; i < 2; i++) {
            CHECK.same("restored", g.restore() ? 1 : 0, 1);
            CHECK.row("as the image", new int[] {g.count(5), g.zone(0, 0), g.zone(0, 3), g.count(6), g.count(7), g.count(13),
                    g.count(14), g.count(15), g.count(17), g.count(18), g.count(19)}, 2, 238, 20, 0, 0, 0, 1, 1, 1, 1, 1);
            CHECK.same("the tape is no part of it", g.count(16), 20);
            CHECK.row("its act is undone", new int[] {g.undo(), g.count(5), g.zone(0, 0), g.undo()}, 0, 0, 200, -1);
            g.minutes(3);
        }
        g.image();
        g.undo();
        CHECK.row("in place of another one", new int[] {g.restore() ? 1 : 0, g.count(5), g.count(14)}, 1, 3, 1);
    }

    private static void imageIsApart() {
        HeatGovernor g = Check.told("zone 0 10;");
        for (int i = 1; i <= 50; i++) {
            g.load(0, i);
        }
        g.note(0, 3, 4);
        g.image();
        for (int i = 60; i < 90; i++) {
            g.load(0, i);
        }
        g.forget();
        g.note(0, 60, 1500);
        g.restore();
        for (int i = 39; i >= 0; i--) {
            CHECK.row("undone", new int[] {g.undo(), g.zone(0, 3)}, i, 10 + i);
        }
        CHECK.row("its note", new int[] {g.count(15), g.fits(0, 0)}, 1, 0);
    }

    private static void imageKeepsItsActs() {
        HeatGovernor g = Check.told("zone 20 10;");
        g.minutes(2);
        g.load(0, 5);
        g.image();
        g.undo();
        g.undo();
        g.load(0, 7);
        g.foresee(1);
        g.minutes(9);
        g.restore();
        CHECK.row("as it was", new int[] {g.count(14), g.count(5), g.zone(0, 3), g.count(6)}, 2, 2, 5, 0);
        CHECK.row("undone", new int[] {g.undo(), g.count(5), g.zone(0, 3), g.count(6)}, 1, 2, 20, 0);
        CHECK.row("undone, too", new int[] {g.undo(), g.count(5), g.zone(0, 3), g.undo()}, 0, 0, 20, -1);
    }
}
