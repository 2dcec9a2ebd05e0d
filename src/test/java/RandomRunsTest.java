import java.util.Random;

/**
 * Runs of calls by fixed seeds, each answer held against the Oracle's; an exception that the document does not
 * tell ends the test. The first argument: how many runs; the second one: the first seed.
 */
public final class RandomRunsTest {
    private static final int CALLS = 120;
    private static final String[] SORTS = {"step", "share", "hot", "critical"};
    private static final String[] MAKES = {"fan", "valve", "pump"};
    private static final String[] FILTERS = {"", "mean", "median", "slow"};

    private final Check check;
    private final Random random;
    private final HeatGovernor governor = new HeatGovernor();
    private final Oracle oracle = new Oracle();
    private final String name;
    private int zones = 1;
    private int trips = 1;
    private int devices = 1;
    private int calls = 0;

    private RandomRunsTest(Check check, int seed) {
        this.check = check;
        this.random = new Random(seed);
        this.name = "seed " + seed + ", call ";
    }

    public static void main(String[] args) {
        Check check = new Check();
        int runs = args.length > 0 ? Integer.parseInt(args[0]) : 400;
        int first = args.length > 1 ? Integer.parseInt(args[1]) : 1;
        for (int seed = first; seed < first + runs; seed++) {
            new RandomRunsTest(check, seed).run();
        }
        check.end();
    }

    private void run() {
        tell();
        while (calls < CALLS) {
            if (random.nextInt(60) == 0) {
                tell();
            }
            if (random.nextInt(3) == 0) {
                change();
            } else {
                ask();
            }
        }
    }

    private void same(String call, Check.Call got, Check.Call due) {
        calls++;
        check.same(name + calls + ": " + call, Check.outcome(got), Check.outcome(due));
    }

    /** A number from least to most; now and then one beside them. */
    private int number(int least, int most) {
        int odd = random.nextInt(25);
        if (odd == 0) {
            return least - 1;
        }
        if (odd == 1) {
            return most + 1;
        }
        if (random.nextInt(200) == 0) {
            return random.nextBoolean() ? Integer.MIN_VALUE : Integer.MAX_VALUE;
        }
        return least + random.nextInt(most - least + 1);
    }

    private int plain(int least, int most) {
        return least + random.nextInt(most - least + 1);
    }

    private void tell() {
        String text = random.nextInt(30) == 0 ? manyClauses() : clauses();
        if (random.nextInt(4) == 0) {
            text = spoiled(text);
        }
        String whole = text.length() > 700 ? text.substring(0, 700) : text;
        for (int from = 0; from < whole.length(); from += 20) {
            int[] n = new int[5];
            for (int i = 0; i < 20; i++) {
                n[i / 4] = n[i / 4] << 8 | (from + i < whole.length() ? whole.charAt(from + i) : 32);
            }
            same("feed", () -> governor.feed(n[0], n[1], n[2], n[3], n[4]), () -> oracle.feed(n));
        }
        int n = random.nextInt(20) == 0 ? number(-1, 701) : whole.length();
        same("plan of " + whole, () -> governor.plan(n), () -> oracle.plan(n));
        same("fault of " + whole, governor::fault, oracle::fault);
    }

    private String clauses() {
        StringBuilder text = new StringBuilder();
        zones = plain(1, 1 + random.nextInt(4));
        trips = plain(0, 6);
        devices = plain(0, 4);
        int[] sorts = new int[trips];
        boolean[] critical = new boolean[5];
        for (int i = 0; i < zones; i++) {
            String filter = FILTERS[random.nextInt(4)];
            String depth = filter.isEmpty() || random.nextInt(4) == 0 ? "" : " " + plain(1, 4);
            text.append("zone ").append(plain(0, random.nextBoolean() ? 99 : 30)).append(' ')
                    .append(plain(1, 50)).append(' ').append(filter).append(depth).append(";");
        }
        for (int i = 0; i < trips; i++) {
            int zone = random.nextInt(zones);
            sorts[i] = random.nextInt(4);
            if (sorts[i] == 3 && critical[zone]) {
                sorts[i] = random.nextInt(3);
            }
            critical[zone] |= sorts[i] == 3;
            text.append("trip ").append(zone).append(' ').append(SORTS[sorts[i]]).append(' ')
                    .append(plain(200, random.nextBoolean() ? 320 : 700)).append(' ').append(plain(0, 40)).append(";\n");
        }
        for (int i = 0; i < devices; i++) {
            text.append("device ").append(MAKES[random.nextInt(3)]).append(random.nextInt(zones)).append(' ')
                    .append(plain(1, 9)).append(' ').append(plain(1, random.nextBoolean() ? 30 : 6)).append(';');
        }
        for (int t = 0; t < trips; t++) {
            for (int d = devices - 1; d >= 0 && sorts[t] < 2; d--) {
                if (random.nextInt(3) > 0) {
                    text.append("bind ").append(t).append(' ').append(d).append(' ').append(plain(1, 9)).append(';');
                }
            }
        }
        for (int i = plain(0, 3); i > 0 && zones > 1; i--) {
            int one = random.nextInt(zones);
            text.append("wall ").append(one).append(' ').append((one + plain(1, zones - 1)) % zones).append(' ')
                    .append(plain(1, 50)).append(';');
        }
        return random.nextBoolean() ? text.append("foreseen ").append(plain(0, 9)).append(";").toString() : text.toString();
    }

    /** As many of each as there may be, without a filter or a wall. */
    private String manyClauses() {
        zones = 5;
        trips = 10;
        devices = 6;
        StringBuilder text = new StringBuilder();
        for (int i = 0; i < 5; i++) {
            text.append("zone").append(plain(10, 99)).append(' ').append(plain(1, 50)).append(';');
        }
        for (int i = 0; i < 10; i++) {
            String sort = i < 5 ? "critical" : random.nextBoolean() ? "share" : "step";
            text.append("trip").append(i % 5).append(sort).append(plain(210, 500)).append(' ').append(plain(0, 9)).append(';');
        }
        for (int i = 0; i < 6; i++) {
            text.append("device").append(MAKES[random.nextInt(3)]).append(i % 5).append(' ').append(plain(1, 9)).append(' ')
                    .append(plain(1, 9)).append(';');
        }
        for (int i = 0; i < 30; i++) {
            text.append("bind").append(5 + i / 6).append(' ').append(i % 6).append(' ').append(plain(1, 9)).append(';');
        }
        return text.toString();
    }

    private String spoiled(String text) {
        StringBuilder signs = new StringBuilder(text);
        for (int i = plain(1, 2); i > 0 && signs.length() > 1; i--) {
            int at = random.nextInt(signs.length());
            String some = ";; 0123456789azfn\n\u00ff!";
            switch (random.nextInt(4)) {
                case 0 -> signs.deleteCharAt(at);
                case 1 -> signs.insert(at, some.charAt(random.nextInt(some.length())));
                case 2 -> signs.setCharAt(at, some.charAt(random.nextInt(some.length())));
                default -> {
                    int from = signs.indexOf(";", at) + 1;
                    int to = signs.indexOf(";", from) + 1;
                    if (from > 0 && to > from) {
                        signs.insert(random.nextInt(signs.length()), signs.substring(from, to));
                    }
                }
            }
        }
        return signs.toString();
    }

    private void change() {
        int zone = number(0, Math.max(0, zones - 1));
        int device = number(0, Math.max(0, devices - 1));
        switch (random.nextInt(14)) {
            case 0, 1, 2, 3 -> {
                int n = number(1, random.nextInt(3) == 0 ? 60 : 9);
                same("minutes " + n, () -> governor.minutes(n), () -> oracle.minutes(n));
            }
            case 4 -> {
                int v = number(0, 99);
                same("load " + zone + " " + v, () -> governor.load(zone, v), () -> oracle.load(zone, v));
            }
            case 5 -> {
                int state = number(-1, 5);
                same("hold " + device + " " + state, () -> governor.hold(device, state), () -> oracle.hold(device, state));
            }
            case 6, 7 -> same("start " + zone, () -> governor.start(zone), () -> oracle.start(zone));
            case 8 -> {
                int n = number(0, 9);
                same("foresee " + n, () -> governor.foresee(n), () -> oracle.foresee(n));
            }
            case 9 -> undoSome();
            case 10, 11 -> noteSome(zone);
            case 12 -> {
                governor.forget();
                oracle.forget();
            }
            default -> keepOrRestore();
        }
    }

    private void undoSome() {
        for (int i = random.nextInt(20) == 0 ? 45 : plain(1, 4); i > 0; i--) {
            same("undo", governor::undo, oracle::undo);
        }
    }

    /** Mostly what will be so, so that some leaks fit. */
    private void noteSome(int zone) {
        int minutes = number(0, random.nextBoolean() ? 60 : 10);
        int due = Check.outcome(() -> oracle.ahead(zone, minutes, 0));
        int heat = random.nextInt(6) == 0 ? number(0, 1500) : due;
        same("note " + zone + " " + minutes + " " + heat, () -> governor.note(zone, minutes, heat),
                () -> oracle.note(zone, minutes, heat));
    }

    private void keepOrRestore() {
        if (random.nextBoolean()) {
            governor.image();
            oracle.image();
        } else {
            same("restore", () -> governor.restore() ? 1 : 0, () -> oracle.restore() ? 1 : 0);
        }
    }

    private void ask() {
        int zone = number(0, Math.max(0, zones - 1));
        int trip = number(0, Math.max(0, trips - 1));
        int device = number(0, Math.max(0, devices - 1));
        switch (random.nextInt(24)) {
            case 0, 1, 2, 3 -> {
                int what = number(0, 19);
                same("count " + what, () -> governor.count(what), () -> oracle.count(what));
            }
            case 4, 5, 6 -> {
                int what = number(0, 10);
                same("zone " + zone + " " + what, () -> governor.zone(zone, what), () -> oracle.zone(zone, what));
            }
            case 7, 8, 9 -> {
                int what = number(0, 7);
                same("trip " + trip + " " + what, () -> governor.trip(trip, what), () -> oracle.trip(trip, what));
            }
            case 10, 11, 12 -> {
                int what = number(0, 6);
                same("device " + device + " " + what, () -> governor.device(device, what),
                        () -> oracle.device(device, what));
            }
            case 13, 14 -> {
                int what = number(0, 1);
                same("bind " + trip + " " + device + " " + what, () -> governor.bind(trip, device, what),
                        () -> oracle.bind(trip, device, what));
            }
            case 15, 16 -> {
                int ago = number(0, random.nextBoolean() ? 39 : 5);
                int what = number(0, 3);
                same("log " + ago + " " + what, () -> governor.log(ago, what), () -> oracle.log(ago, what));
            }
            default -> askWhatWouldBe(zone, trip);
        }
    }

    private void askWhatWouldBe(int zone, int trip) {
        switch (random.nextInt(7)) {
            case 0 -> {
                int n = number(0, 200);
                int what = number(0, 2);
                same("ahead " + zone + " " + n + " " + what, () -> governor.ahead(zone, n, what),
                        () -> oracle.ahead(zone, n, what));
            }
            case 1 -> {
                int what = number(0, 1);
                int n = number(1, what == 0 ? 200 : 60);
                same("bears " + zone + " " + n + " " + what, () -> governor.bears(zone, n, what),
                        () -> oracle.bears(zone, n, what));
            }
            case 2 -> {
                int n = number(1, 200);
                same("flips " + trip + " " + n, () -> governor.flips(trip, n), () -> oracle.flips(trip, n));
            }
            case 3 -> {
                int what = number(0, 1);
                same("fits " + zone + " " + what, () -> governor.fits(zone, what), () -> oracle.fits(zone, what));
            }
            case 4 -> {
                int what = number(0, 1);
                same("look " + zone + " " + what, () -> governor.look(zone, what), () -> oracle.look(zone, what));
            }
            case 5 -> {
                int seed = random.nextInt();
                int n = number(0, 60);
                int what = number(0, 2);
                same("years " + seed + " " + n + " " + what, () -> governor.years(seed, n, what),
                        () -> oracle.years(seed, n, what));
            }
            default -> {
                int what = plain(9, 12);
                same("count " + what, () -> governor.count(what), () -> oracle.count(what));
            }
        }
    }
}
