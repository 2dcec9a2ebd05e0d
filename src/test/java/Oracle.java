import java.util.ArrayList;
import java.util.Arrays;
import java.util.Collections;
import java.util.List;
import java.util.NoSuchElementException;
import java.util.TreeSet;

/**
 * The document once more, written for plainness alone and on its own: worlds that are copied whole, lists that
 * grow, every question asked by living it through. RandomRunsTest holds HeatGovernor against it.
 */
final class Oracle {
    private static final String[] SORTS = {"step", "share", "hot", "critical"};
    private static final String[] MAKES = {"fan", "valve", "pump"};
    private static final String[] KINDS = {"raw", "mean", "median", "slow"};

    private static final class Fault extends RuntimeException {
        private static final long serialVersionUID = 1;
        final int kind;
        final int place;

        Fault(int kind, int place) {
            this.kind = kind;
            this.place = place;
        }
    }

    private record Token(String sign, int place) {
        boolean number() {
            return sign.matches("[0-9]+");
        }
    }

    /** What is told: rows of numbers in the order of the clause. */
    private static final class Told {
        final List<int[]> zones = new ArrayList<>();
        final List<int[]> trips = new ArrayList<>();
        final List<int[]> devices = new ArrayList<>();
        final List<int[]> binds = new ArrayList<>();
        final List<int[]> walls = new ArrayList<>();
        int foreseen = -1;
    }

    private static final class World {
        Told told = new Told();
        int minute = 0;
        int foreseen = 0;
        List<Integer> leaks = new ArrayList<>();
        List<Integer> loads = new ArrayList<>();
        List<Integer> cools = new ArrayList<>();
        List<List<Integer>> readings = new ArrayList<>();
        List<List<Integer>> temps = new ArrayList<>();
        List<Integer> whys = new ArrayList<>();
        List<Boolean> on = new ArrayList<>();
        List<Integer> crossed = new ArrayList<>();
        List<Integer> states = new ArrayList<>();
        List<Integer> held = new ArrayList<>();
        int[][] wanted = new int[10][6];
        List<int[]> log = new ArrayList<>();

        World copy() {
            World w = new World();
            w.told = told;
            w.minute = minute;
            w.foreseen = foreseen;
            w.leaks.addAll(leaks);
            w.loads.addAll(loads);
            w.cools.addAll(cools);
            // Nothing looks farther back than the deepest filter.
            readings.forEach(r -> w.readings.add(new ArrayList<>(r.subList(r.size() - 4, r.size()))));
            temps.forEach(t -> w.temps.add(new ArrayList<>(t.subList(t.size() - 2, t.size()))));
            w.whys.addAll(whys);
            w.on.addAll(on);
            w.crossed.addAll(crossed);
            w.states.addAll(states);
            w.held.addAll(held);
            for (int t = 0; t < 10; t++) {
                w.wanted[t] = wanted[t].clone();
            }
            w.log.addAll(log);
            return w;
        }

        int heat(int z) {
            return last(readings.get(z), 0);
        }

        int temp(int z) {
            return last(temps.get(z), 0);
        }

        int slope(int z) {
            return temp(z) - last(temps.get(z), 1);
        }

        boolean shut(int z) {
            return whys.get(z) > 0;
        }
    }

    private World world = new World();
    private List<World> acts = new ArrayList<>();
    private List<int[]> noted = new ArrayList<>();
    private int[] status = new int[3];
    private final StringBuilder tape = new StringBuilder();
    private int faultPlace = -1;
    private Object[] kept = null;

    private static int last(List<Integer> list, int ago) {
        return list.get(list.size() - 1 - ago);
    }

    private static int down(int a, int b) {
        return (int) Math.floor((double) a / b);
    }

    int feed(int... numbers) {
        if (tape.length() + 20 > 700) {
            return -1;
        }
        for (int number : numbers) {
            for (int i = 3; i >= 0; i--) {
                tape.append((char) (number >> 8 * i & 255));
            }
        }
        return tape.length();
    }

    int plan(int n) {
        if (n < 0 || n > tape.length()) {
            throw new IllegalArgumentException();
        }
        String text = tape.substring(0, n);
        tape.setLength(0);
        try {
            world = first(parse(tokens(text)));
            faultPlace = -1;
        } catch (Fault f) {
            faultPlace = f.place;
            status[0]++;
            return f.kind;
        }
        acts.clear();
        noted.clear();
        kept = null;
        return 0;
    }

    int fault() {
        return faultPlace;
    }

    private static List<Token> tokens(String text) {
        List<Token> tokens = new ArrayList<>();
        java.util.regex.Matcher m = java.util.regex.Pattern.compile("[a-z]+|[0-9]+|[^ \n]").matcher(text);
        while (m.find()) {
            tokens.add(new Token(m.group(), m.start()));
        }
        tokens.add(new Token("", text.length()));
        return tokens;
    }

    /** The next number of a clause, which takes it off the list. */
    private static int take(List<Token> tokens, int least, int most) {
        Token t = tokens.remove(0);
        if (!t.number()) {
            throw new Fault(1, t.place);
        }
        if (t.sign.length() > 3 || Integer.parseInt(t.sign) < least || Integer.parseInt(t.sign) > most) {
            throw new Fault(2, t.place);
        }
        return Integer.parseInt(t.sign);
    }

    private static int takeTold(List<Token> tokens, int most, List<int[]> told) {
        int place = tokens.get(0).place;
        int number = take(tokens, 0, most);
        if (number >= told.size()) {
            throw new Fault(3, place);
        }
        return number;
    }

    private static int takeWord(List<Token> tokens, String[] words) {
        Token t = tokens.remove(0);
        int index = Arrays.asList(words).indexOf(t.sign);
        if (index < 0) {
            throw new Fault(1, t.place);
        }
        return index;
    }

    private static void room(List<int[]> rows, int most, Token word) {
        if (rows.size() == most) {
            throw new Fault(2, word.place);
        }
    }

    private static Told parse(List<Token> tokens) {
        Told told = new Told();
        while (tokens.size() > 1) {
            Token word = tokens.remove(0);
            switch (word.sign) {
                case "zone" -> zoneClause(told, tokens, word);
                case "trip" -> tripClause(told, tokens, word);
                case "device" -> {
                    room(told.devices, 6, word);
                    told.devices.add(new int[] {takeWord(tokens, MAKES), takeTold(tokens, 4, told.zones),
                        take(tokens, 1, 9), take(tokens, 1, 30)});
                }
                case "bind" -> bindClause(told, tokens);
                case "wall" -> wallClause(told, tokens, word);
                case "foreseen" -> {
                    if (told.foreseen >= 0) {
                        throw new Fault(4, word.place);
                    }
                    told.foreseen = take(tokens, 0, 9);
                }
                default -> throw new Fault(1, word.place);
            }
            takeWord(tokens, new String[] {";"});
        }
        return told;
    }

    private static void zoneClause(Told told, List<Token> tokens, Token word) {
        room(told.zones, 5, word);
        int load = take(tokens, 0, 99);
        int leak = take(tokens, 1, 50);
        int kind = Math.max(0, Arrays.asList(KINDS).indexOf(tokens.get(0).sign));
        int depth = 1;
        if (kind > 0) {
            tokens.remove(0);
            depth = tokens.get(0).number() ? take(tokens, 1, 4) : 3;
        }
        told.zones.add(new int[] {load, leak, kind, depth});
    }

    private static void tripClause(Told told, List<Token> tokens, Token word) {
        room(told.trips, 10, word);
        int zone = takeTold(tokens, 4, told.zones);
        int place = tokens.get(0).place;
        int sort = takeWord(tokens, SORTS);
        if (sort == 3 && told.trips.stream().anyMatch(t -> t[0] == zone && t[1] == 3)) {
            throw new Fault(4, place);
        }
        told.trips.add(new int[] {zone, sort, take(tokens, 200, 999), take(tokens, 0, 99)});
    }

    private static void bindClause(Told told, List<Token> tokens) {
        int place = tokens.get(0).place;
        int trip = takeTold(tokens, 9, told.trips);
        if (told.trips.get(trip)[1] > 1) {
            throw new Fault(4, place);
        }
        place = tokens.get(0).place;
        int device = takeTold(tokens, 5, told.devices);
        if (told.binds.stream().anyMatch(b -> b[0] == trip && b[1] == device)) {
            throw new Fault(4, place);
        }
        told.binds.add(new int[] {trip, device, take(tokens, 1, 9)});
    }

    private static void wallClause(Told told, List<Token> tokens, Token word) {
        room(told.walls, 8, word);
        int one = takeTold(tokens, 4, told.zones);
        int place = tokens.get(0).place;
        int other = takeTold(tokens, 4, told.zones);
        if (one == other) {
            throw new Fault(4, place);
        }
        told.walls.add(new int[] {one, other, take(tokens, 1, 50)});
    }

    private static World first(Told told) {
        World w = new World();
        w.told = told;
        w.foreseen = Math.max(0, told.foreseen);
        for (int[] zone : told.zones) {
            w.loads.add(zone[0]);
            w.leaks.add(zone[1]);
            w.readings.add(new ArrayList<>(List.of(200, 200, 200, 200)));
            w.temps.add(new ArrayList<>(List.of(200, 200)));
            w.whys.add(0);
        }
        for (int i = 0; i < told.trips.size(); i++) {
            w.on.add(false);
            w.crossed.add(0);
        }
        for (int[] device : told.devices) {
            w.cools.add(device[3]);
            w.states.add(0);
            w.held.add(-1);
        }
        return w;
    }

    // ---- a minute

    private static void minute(World w) {
        Told told = w.told;
        List<Integer> next = new ArrayList<>();
        for (int z = 0; z < told.zones.size(); z++) {
            next.add(nextHeat(w, z));
        }
        for (int z = 0; z < told.zones.size(); z++) {
            w.readings.get(z).add(next.get(z));
            w.temps.get(z).add(nextTemp(w, z));
        }
        for (int t = 0; t < told.trips.size(); t++) {
            int[] trip = told.trips.get(t);
            boolean was = w.on.get(t);
            boolean is = was ? w.temp(trip[0]) >= trip[2] - trip[3] : w.temp(trip[0]) >= trip[2];
            w.on.set(t, is);
            if (was != is) {
                w.log.add(new int[] {w.minute, is ? 1 : 2, trip[0], t});
                w.crossed.set(t, w.crossed.get(t) + (is ? 1 : 0));
            }
        }
        for (int t = 0; t < told.trips.size(); t++) {
            want(w, t);
        }
        for (int d = 0; d < told.devices.size(); d++) {
            int goal = w.held.get(d) >= 0 ? w.held.get(d) : greatest(w, d);
            int make = told.devices.get(d)[0];
            int state = w.states.get(d);
            boolean atOnce = make == 1 || make == 2 && goal > state;
            int toward = goal > state ? state + 1 : goal < state ? state - 1 : state;
            w.states.set(d, atOnce ? goal : toward);
        }
        for (int t = 0; t < told.trips.size(); t++) {
            shut(w, t);
        }
        w.minute++;
    }

    private static int nextHeat(World w, int z) {
        int heat = w.heat(z);
        int next = heat;
        if (!w.shut(z)) {
            next += w.loads.get(z);
        }
        next -= down(heat - 200, w.leaks.get(z));
        next -= cooling(w, z);
        for (int[] wall : w.told.walls) {
            int flow = down(w.heat(wall[0]) - w.heat(wall[1]), wall[2]);
            if (wall[0] == z) {
                next -= flow;
            }
            if (wall[1] == z) {
                next += flow;
            }
        }
        return next < 0 ? 0 : next > 1500 ? 1500 : next;
    }

    private static int cooling(World w, int z) {
        int sum = 0;
        for (int d = 0; d < w.told.devices.size(); d++) {
            if (w.told.devices.get(d)[1] == z) {
                sum += w.states.get(d) * w.cools.get(d);
            }
        }
        return sum;
    }

    private static int nextTemp(World w, int z) {
        int kind = w.told.zones.get(z)[2];
        int depth = w.told.zones.get(z)[3];
        List<Integer> all = w.readings.get(z);
        List<Integer> latest = new ArrayList<>(all.subList(all.size() - depth, all.size()));
        if (kind == 1) {
            return down(latest.stream().mapToInt(r -> r).sum(), depth);
        }
        if (kind == 2) {
            Collections.sort(latest);
            int[] middle = {-1, 0, 0, 1, 1};
            return latest.get(middle[depth]);
        }
        return kind == 3 ? w.temp(z) + down(w.heat(z) - w.temp(z), depth) : w.heat(z);
    }

    private static void want(World w, int t) {
        int[] trip = w.told.trips.get(t);
        List<int[]> binds = new ArrayList<>(w.told.binds.stream().filter(b -> b[0] == t).toList());
        if (trip[1] == 0) {
            for (int[] bind : binds) {
                int most = w.told.devices.get(bind[1])[2];
                int ahead = w.wanted[t][bind[1]];
                if (!w.on.get(t) || w.slope(trip[0]) < 0) {
                    w.wanted[t][bind[1]] = ahead == 0 ? 0 : ahead - 1;
                } else if (w.slope(trip[0]) > 0) {
                    w.wanted[t][bind[1]] = ahead == most ? most : ahead + 1;
                }
            }
        }
        if (trip[1] == 1) {
            binds.sort((a, b) -> a[2] != b[2] ? b[2] - a[2] : a[1] - b[1]);
            int asked = asked(w, t);
            int weights = binds.stream().mapToInt(b -> b[2]).sum();
            int given = 0;
            for (int[] bind : binds) {
                int most = w.told.devices.get(bind[1])[2];
                w.wanted[t][bind[1]] = Math.min(most, asked * bind[2] / weights);
                given += w.wanted[t][bind[1]];
            }
            for (int i = 0; given < asked; i++) {
                int[] bind = binds.get(i % binds.size());
                if (w.wanted[t][bind[1]] < w.told.devices.get(bind[1])[2]) {
                    w.wanted[t][bind[1]]++;
                    given++;
                }
            }
        }
    }

    private static int asked(World w, int t) {
        int[] trip = w.told.trips.get(t);
        if (trip[1] != 1 || !w.on.get(t)) {
            return 0;
        }
        int all = w.told.binds.stream().filter(b -> b[0] == t).mapToInt(b -> w.told.devices.get(b[1])[2]).sum();
        int asked = down(w.temp(trip[0]) - trip[2], 10) + 1;
        asked = asked < 1 ? 1 : asked;
        return asked > all ? all : asked;
    }

    private static int greatest(World w, int d) {
        int greatest = 0;
        for (int t = 0; t < 10; t++) {
            greatest = Math.max(greatest, w.wanted[t][d]);
        }
        return greatest;
    }

    private static void shut(World w, int t) {
        int[] trip = w.told.trips.get(t);
        int z = trip[0];
        if (trip[1] != 3 || w.shut(z)) {
            return;
        }
        boolean full = true;
        for (int d = 0; d < w.told.devices.size(); d++) {
            full &= w.told.devices.get(d)[1] != z || w.states.get(d) == w.told.devices.get(d)[2];
        }
        boolean soon = w.foreseen > 0 && w.slope(z) > 0 && full && w.temp(z) + w.slope(z) * w.foreseen >= trip[2];
        int why = w.on.get(t) ? 1 : soon ? 2 : 0;
        if (why > 0) {
            w.whys.set(z, why);
            w.log.add(new int[] {w.minute, 2 + why, z, t});
        }
    }

    // ---- questions

    private static World after(World from, int n) {
        World w = from.copy();
        for (int i = 0; i < n; i++) {
            minute(w);
        }
        return w;
    }

    private static int shutBits(World w) {
        int bits = 0;
        for (int z = 0; z < w.whys.size(); z++) {
            bits += w.shut(z) ? 1 << z : 0;
        }
        return bits;
    }

    /** FIRST and which. */
    private static int[] firstShut(World from) {
        World w = from.copy();
        for (int n = 1; n <= 200; n++) {
            minute(w);
            for (int z = 0; z < w.whys.size(); z++) {
                if (w.shut(z) && !from.shut(z)) {
                    return new int[] {n, z};
                }
            }
        }
        return new int[] {-1, -1};
    }

    private int needed() {
        int best = -1;
        int least = 1000;
        for (int d = 0; d < world.told.devices.size(); d++) {
            World w = world.copy();
            w.cools.set(d, 0);
            int first = firstShut(w)[0];
            if (first > 0 && first < least) {
                best = d;
                least = first;
            }
        }
        return best;
    }

    private static String looks(World w) {
        StringBuilder text = new StringBuilder();
        for (int z = 0; z < w.told.zones.size(); z++) {
            int[] zone = w.told.zones.get(z);
            int depth = zone[2] == 1 || zone[2] == 2 ? zone[3] : 1;
            List<Integer> all = w.readings.get(z);
            text.append(all.subList(all.size() - depth, all.size())).append(w.temp(z)).append(w.shut(z)).append('/');
        }
        return text.append(w.on).append(w.states).append(Arrays.deepToString(w.wanted)).toString();
    }

    private int again() {
        World w = world.copy();
        for (int n = 1; n <= 200; n++) {
            minute(w);
            if (looks(w).equals(looks(world))) {
                return n;
            }
        }
        return -1;
    }

    int count(int what) {
        Told told = world.told;
        int on = 0;
        for (int t = 0; t < world.on.size(); t++) {
            on += world.on.get(t) ? 1 << t : 0;
        }
        return switch (what) {
            case 0 -> told.zones.size();
            case 1 -> told.trips.size();
            case 2 -> told.devices.size();
            case 3 -> told.binds.size();
            case 4 -> told.walls.size();
            case 5 -> world.minute;
            case 6 -> world.foreseen;
            case 7 -> shutBits(world);
            case 8 -> on;
            case 9 -> firstShut(world)[0];
            case 10 -> firstShut(world)[1];
            case 11 -> needed();
            case 12 -> again();
            case 13 -> Math.min(40, world.log.size());
            case 14 -> acts.size();
            case 15 -> noted.size();
            case 16 -> tape.length();
            case 17, 18, 19 -> status[what - 17];
            default -> throw new NoSuchElementException();
        };
    }

    private static void there(int index, List<?> list) {
        if (index < 0 || index >= list.size()) {
            throw new NoSuchElementException();
        }
    }

    private static void upTo(int what, int most) {
        if (what < 0 || what > most) {
            throw new NoSuchElementException();
        }
    }

    private static void legal(boolean is) {
        if (!is) {
            throw new IllegalArgumentException();
        }
    }

    int zone(int z, int what) {
        there(z, world.told.zones);
        upTo(what, 10);
        int margin = Integer.MAX_VALUE;
        for (int t = 0; t < world.told.trips.size(); t++) {
            if (world.told.trips.get(t)[0] == z && !world.on.get(t)) {
                margin = Math.min(margin, world.told.trips.get(t)[2] - world.temp(z));
            }
        }
        return new int[] {world.heat(z), world.temp(z), world.slope(z), world.loads.get(z), world.leaks.get(z),
            world.told.zones.get(z)[2], world.told.zones.get(z)[3], world.shut(z) ? 1 : 0, world.whys.get(z),
            margin == Integer.MAX_VALUE ? -1 : margin, cooling(world, z)}[what];
    }

    int trip(int t, int what) {
        there(t, world.told.trips);
        upTo(what, 7);
        int[] trip = world.told.trips.get(t);
        int bound = (int) world.told.binds.stream().filter(b -> b[0] == t).count();
        return new int[] {trip[0], trip[1], trip[2], trip[3], world.on.get(t) ? 1 : 0, world.crossed.get(t),
            asked(world, t), bound}[what];
    }

    int device(int d, int what) {
        there(d, world.told.devices);
        upTo(what, 6);
        int[] device = world.told.devices.get(d);
        return new int[] {device[0], device[1], device[2], device[3], world.states.get(d), world.held.get(d),
            greatest(world, d)}[what];
    }

    int bind(int t, int d, int what) {
        there(t, world.told.trips);
        there(d, world.told.devices);
        upTo(what, 1);
        for (int[] bind : world.told.binds) {
            if (bind[0] == t && bind[1] == d) {
                return what == 0 ? bind[2] : world.wanted[t][d];
            }
        }
        return 0;
    }

    int log(int ago, int what) {
        upTo(what, 3);
        upTo(ago, Math.min(40, world.log.size()) - 1);
        return world.log.get(world.log.size() - 1 - ago)[what];
    }

    int ahead(int z, int n, int what) {
        there(z, world.told.zones);
        upTo(what, 2);
        legal(n >= 0 && n <= 200);
        World w = after(world, n);
        return what == 0 ? w.heat(z) : what == 1 ? w.temp(z) : w.shut(z) ? 1 : 0;
    }

    int bears(int z, int n, int what) {
        there(z, world.told.zones);
        upTo(what, 1);
        legal(n >= 1 && n <= (what == 0 ? 200 : 60));
        if (what == 0) {
            List<Integer> heats = after(world, n).readings.get(z);
            return Collections.max(heats.subList(heats.size() - n, heats.size()));
        }
        int greatest = -1;
        for (int load = 0; load <= 99; load++) {
            World w = world.copy();
            w.loads.set(z, load);
            if (!after(w, n).shut(z)) {
                greatest = load;
            }
        }
        return greatest;
    }

    int flips(int t, int n) {
        there(t, world.told.trips);
        legal(n >= 1 && n <= 200);
        List<int[]> log = after(world, n).log;
        return (int) log.subList(world.log.size(), log.size()).stream().filter(r -> r[1] <= 2 && r[3] == t).count();
    }

    // ---- acts

    private int act(boolean possible, int refused, int answer, Runnable act) {
        if (!possible) {
            status[1]++;
            return refused;
        }
        acts.add(world.copy());
        if (acts.size() > 40) {
            acts.remove(0);
        }
        act.run();
        return answer;
    }

    private boolean has(int index, List<?> list) {
        return index >= 0 && index < list.size();
    }

    int minutes(int n) {
        return act(n >= 1 && n <= 60, -1, world.minute + n, () -> world = after(world, n));
    }

    int load(int z, int v) {
        int was = has(z, world.loads) ? world.loads.get(z) : -1;
        return act(was >= 0 && v >= 0 && v <= 99 && v != was, -1, was, () -> world.loads.set(z, v));
    }

    int hold(int d, int state) {
        boolean possible = has(d, world.held) && state >= -1 && state <= world.told.devices.get(d)[2]
                && state != world.held.get(d);
        int was = possible ? world.held.get(d) : -2;
        return act(possible, -2, was, () -> world.held.set(d, state));
    }

    int start(int z) {
        boolean possible = has(z, world.whys) && world.shut(z);
        for (int t = 0; t < world.told.trips.size(); t++) {
            possible &= !(world.told.trips.get(t)[0] == z && world.told.trips.get(t)[1] == 3 && world.on.get(t));
        }
        return act(possible, -1, possible ? world.temp(z) : -1, () -> {
            world.whys.set(z, 0);
            world.log.add(new int[] {world.minute, 5, z, -1});
        });
    }

    int foresee(int n) {
        return act(n >= 0 && n <= 9 && n != world.foreseen, -1, world.foreseen, () -> world.foreseen = n);
    }

    int undo() {
        if (acts.isEmpty()) {
            return -1;
        }
        world = acts.remove(acts.size() - 1).copy();
        return acts.size();
    }

    // ---- what is noted, years, the image

    int note(int z, int minutes, int heat) {
        if (noted.size() == 8 || !has(z, world.whys) || minutes < 0 || minutes > 60 || heat < 0 || heat > 1500) {
            status[2]++;
            return -1;
        }
        noted.add(new int[] {z, minutes, heat});
        return noted.size();
    }

    void forget() {
        noted.clear();
    }

    private List<Integer> fitting(int z) {
        List<Integer> leaks = new ArrayList<>();
        for (int leak = 1; leak <= 50; leak++) {
            World w = world.copy();
            w.leaks.set(z, leak);
            boolean fits = true;
            for (int[] note : noted) {
                fits = fits && after(w, note[1]).heat(note[0]) == note[2];
            }
            if (fits) {
                leaks.add(leak);
            }
        }
        return leaks;
    }

    int fits(int z, int what) {
        there(z, world.told.zones);
        upTo(what, 1);
        List<Integer> leaks = fitting(z);
        return what == 0 ? leaks.size() : leaks.isEmpty() ? -1 : leaks.get(0);
    }

    int look(int z, int what) {
        there(z, world.told.zones);
        upTo(what, 1);
        List<Integer> leaks = fitting(z);
        int best = -1;
        int most = 0;
        for (int n = 0; n <= 20; n++) {
            TreeSet<Integer> heats = new TreeSet<>();
            for (int leak : leaks) {
                World w = world.copy();
                w.leaks.set(z, leak);
                heats.add(after(w, n).heat(z));
            }
            if (heats.size() > most) {
                best = n;
                most = heats.size();
            }
        }
        return what == 0 ? best : most;
    }

    private int seed;

    private int draw(int n) {
        seed = (int) ((long) seed * 1103515245L + 12345L);
        return (int) ((seed & 0xffffffffL) >> 16 & 32767) % n;
    }

    int years(int firstSeed, int n, int what) {
        upTo(what, 2);
        legal(n >= 0 && n <= 60);
        seed = firstSeed;
        World w = world.copy();
        int greatest = 0;
        for (int i = 0; i < n; i++) {
            if (draw(4) == 0 && !w.loads.isEmpty()) {
                int z = draw(w.loads.size());
                w.loads.set(z, draw(100));
            }
            minute(w);
            for (int z = 0; z < w.loads.size(); z++) {
                greatest = Math.max(greatest, w.heat(z));
            }
        }
        return what == 0 ? greatest : what == 1 ? shutBits(w) : w.log.size() - world.log.size();
    }

    void image() {
        kept = new Object[] {world.copy(), new ArrayList<>(acts), new ArrayList<>(noted), status.clone()};
    }

    @SuppressWarnings("unchecked")
    boolean restore() {
        if (kept == null) {
            return false;
        }
        world = ((World) kept[0]).copy();
        acts = new ArrayList<>((List<World>) kept[1]);
        noted = new ArrayList<>((List<int[]>) kept[2]);
        status = ((int[]) kept[3]).clone();
        return true;
    }
}
