import java.io.IOException;
import java.nio.file.Files;
import java.nio.file.Path;
import java.util.List;

/**
 * README.md tells each call by its promise, 1 to 26, in a row of its table, and its example answers as it says.
 * It is read from the folder that the test is run in, which is the project's.
 */
public final class ReadmeTest {
    private static final Check CHECK = new Check();

    /** The calls in the order of their promises, with the document's names of what they take. */
    private static final String[] CALLS = {
        "HeatGovernor()", "feed(a, b, c, d, e)", "plan(n)", "fault()", "count(what)", "zone(zone, what)",
        "trip(trip, what)", "device(device, what)", "bind(trip, device, what)", "log(ago, what)",
        "ahead(zone, n, what)", "bears(zone, n, what)", "flips(trip, n)", "minutes(n)", "load(zone, v)",
        "hold(device, state)", "start(zone)", "foresee(n)", "undo()", "note(zone, minutes, heat)",
        "fits(zone, what)", "look(zone, what)", "forget()", "years(seed, n, what)", "image()", "restore()",
    };

    public static void main(String[] args) throws IOException {
        List<String> lines = Files.readAllLines(Path.of("README.md"));
        eachCallByItsPromise(lines);
        howToRunTheTests(lines);
        example(lines);
        CHECK.end();
    }

    /** "README.md says how to use the class (each call by its promise)": a row for each, and no row for another. */
    private static void eachCallByItsPromise(List<String> lines) {
        for (int i = 0; i < CALLS.length; i++) {
            String row = "| " + (i + 1) + " | `" + CALLS[i] + "` | ";
            CHECK.same("rows with " + row, lines.stream().filter(line -> line.startsWith(row)).count(), 1);
        }
        CHECK.same("rows of calls", lines.stream().filter(line -> line.matches("\\| \\d+ \\| `.*")).count(), CALLS.length);
    }

    /** "and how to run its tests": the script, and each test by its name. */
    private static void howToRunTheTests(List<String> lines) throws IOException {
        CHECK.same("the script is told", lines.stream().anyMatch(line -> line.startsWith("`.ci/run`")) ? 1 : 0, 1);
        try (var files = Files.list(Path.of("src/test/java"))) {
            for (String name : files.map(file -> file.getFileName().toString()).sorted().toList()) {
                if (name.endsWith("Test.java")) {
                    String row = "| " + name.replace(".java", "") + " | ";
                    CHECK.same("rows with " + row, lines.stream().filter(line -> line.startsWith(row)).count(), 1);
                }
            }
        }
    }

    /** The example, call by call: each line of the page is the call that is made here, with its answer behind it. */
    private static void example(List<String> lines) {
        HeatGovernor governor = new HeatGovernor();
        CHECK.same("feed", governor.feed(2054123109, 540160032, 825244532, 1919512608, 807428978), 20);
        CHECK.same("feed", governor.feed(1769236835, 1634476083, 808460336, 991961120, 538976288), 40);
        told(lines, "governor.feed(2054123109, 540160032, 825244532, 1919512608, 807428978);", "");
        told(lines, "governor.feed(1769236835, 1634476083, 808460336, 991961120, 538976288);", "");
        answers(lines, "plan(33)", "\"zone 20 10;trip 0 critical 300 0;\": 0", governor.plan(33), 0);
        answers(lines, "count(9)", "7:", governor.count(9), 7);
        answers(lines, "bears(0, 60, 1)", "9:", governor.bears(0, 60, 1), 9);
        answers(lines, "minutes(7)", "7:", governor.minutes(7), 7);
        answers(lines, "zone(0, 7)", "1:", governor.zone(0, 7), 1);
        answers(lines, "undo()", "0:", governor.undo(), 0);
        CHECK.same("lines of the example", lines.stream().filter(line -> line.startsWith("governor.")).count(), 8);
    }

    private static void answers(List<String> lines, String call, String remark, int got, int due) {
        CHECK.same(call, got, due);
        told(lines, "governor." + call + ";", remark);
    }

    private static void told(List<String> lines, String call, String remark) {
        boolean found = lines.stream().anyMatch(line -> line.startsWith(call)
                && (remark.isEmpty() || line.substring(call.length()).strip().startsWith("// " + remark)));
        CHECK.same("the page has " + call + " // " + remark, found ? 1 : 0, 1);
    }
}
