import java.util.NoSuchElementException;

/** What the tests share: a governor by its text, and the count of answers that are not as due. */
final class Check {
    static final int NO_SUCH = -1001;
    static final int ILLEGAL = -1002;

    interface Call {
        int answer();
    }

    private int wrong = 0;
    private int checks = 0;

    /** Puts a text on the tape, filled with blanks to a multiple of 20 bytes: the text's own length. */
    static int feed(HeatGovernor governor, String text) {
        for (int from = 0; from < text.length(); from += 20) {
            int[] numbers = new int[5];
            for (int i = 0; i < 20; i++) {
                int sign = from + i < text.length() ? text.charAt(from + i) : ' ';
                numbers[i / 4] |= sign << 24 - 8 * (i % 4);
            }
            governor.feed(numbers[0], numbers[1], numbers[2], numbers[3], numbers[4]);
        }
        return text.length();
    }

    static int plan(HeatGovernor governor, String text) {
        return governor.plan(feed(governor, text));
    }

    /** A new governor by a text without a fault. */
    static HeatGovernor told(String text) {
        HeatGovernor governor = new HeatGovernor();
        int fault = plan(governor, text);
        if (fault != 0) {
            throw new IllegalStateException("fault " + fault + " at " + governor.fault() + " of " + text);
        }
        return governor;
    }

    /** The answer, or which of the document's exceptions came in its place. */
    static int outcome(Call call) {
        try {
            return call.answer();
        } catch (NoSuchElementException e) {
            return NO_SUCH;
        } catch (IllegalArgumentException e) {
            return ILLEGAL;
        }
    }

    void same(String what, long got, long due) {
        checks++;
        if (got != due) {
            wrong++;
            System.out.println(what + ": " + got + ", due is " + due);
        }
    }

    void row(String what, int[] got, int... due) {
        same(what + " (how many)", got.length, due.length);
        for (int i = 0; i < Math.min(got.length, due.length); i++) {
            same(what + " [" + i + "]", got[i], due[i]);
        }
    }

    void noSuch(String what, Call call) {
        same(what + " (" + NO_SUCH + " is NoSuchElementException)", outcome(call), NO_SUCH);
    }

    void illegal(String what, Call call) {
        same(what + " (" + ILLEGAL + " is IllegalArgumentException)", outcome(call), ILLEGAL);
    }

    /** What plan() answers for a text and fault() behind that, on an object of its own. */
    void fault(String text, int fault, int place) {
        HeatGovernor g = new HeatGovernor();
        same("plan of " + text, plan(g, text), fault);
        same("fault of " + text, g.fault(), place);
        same("texts refused, of " + text, g.count(17), fault == 0 ? 0 : 1);
    }

    /** What is seen behind each of some minutes. */
    static int[] seen(HeatGovernor g, int minutes, Call look) {
        int[] row = new int[minutes];
        for (int i = 0; i < minutes; i++) {
            g.minutes(1);
            row[i] = look.answer();
        }
        return row;
    }

    /** All that can be asked of an object but its tape, FAULT and STATUS, to compare what is ahead of a call and behind it. */
    static String everything(HeatGovernor g) {
        StringBuilder all = new StringBuilder("counts");
        for (int what = 0; what < 16; what++) {
            all.append(' ').append(g.count(what));
        }
        table(all, "zones", g.count(0), 11, g::zone);
        table(all, "trips", g.count(1), 8, g::trip);
        table(all, "devices", g.count(2), 7, g::device);
        table(all, "log", g.count(13), 4, g::log);
        table(all, "fits", g.count(0), 2, g::fits);
        table(all, "look", g.count(0), 2, g::look);
        for (int trip = 0; trip < g.count(1); trip++) {
            int row = trip;
            table(all, "binds", g.count(2), 2, (device, what) -> g.bind(row, device, what));
        }
        return all.toString();
    }

    private interface Cell {
        int at(int row, int what);
    }

    private static void table(StringBuilder all, String name, int rows, int columns, Cell cell) {
        all.append("; ").append(name);
        for (int row = 0; row < rows; row++) {
            for (int what = 0; what < columns; what++) {
                all.append(what == 0 ? " | " : " ").append(cell.at(row, what));
            }
        }
    }

    void alike(String what, String got, String due) {
        same(got.equals(due) ? what : what + ": " + got + " and not " + due, got.equals(due) ? 1 : 0, 1);
    }

    void end() {
        System.out.println(checks + " answers, " + wrong + " wrong");
        if (wrong != 0 || checks == 0) {
            System.exit(1);
        }
    }
}
