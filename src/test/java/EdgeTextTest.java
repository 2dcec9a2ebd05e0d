import java.util.Arrays;

/**
 * The edges of the tape and of the TEXT: each sentence of promises 1 to 4 and of the document's part 1 that names
 * a boundary case, with the calls beside it. A remark tells the promise and the sentence.
 */
public final class EdgeTextTest {
    private static final Check CHECK = new Check();
    private static final int BLANKS = 0x20202020;
    private static final String ZONE = "zone 1 2;";

    public static void main(String[] args) {
        tapeTests();
        planTests();
        limitTests();
        tokenTests();
        faultTests();
        CHECK.end();
    }

    private static void tapeTests() {
        nothingIsTold();
        eachByteHasItsPlace();
        bytesComeBehindTheTape();
        tapeIsFull();
    }

    private static void planTests() {
        noByteIsAText();
        firstBytesAlone();
        wholeTape();
        emptyBehindAFault();
        allAnew();
        allAnewBehindAFault();
        allAnewAgainAndAgain();
        allStaysWithAFault();
        allIsGone();
        notSoManyBytes();
        placeOfTheFault();
        latestPlan();
    }

    private static void limitTests() {
        zonesAtMostFive();
        zoneAtFirst();
        loads();
        leaks();
        depths();
        withoutFilter();
        depthThreeWithout();
        tripsAtMostTen();
        sorts();
        ats();
        drops();
        tripsAreOffAtFirst();
        devicesAtMostSix();
        makes();
        mosts();
        cools();
        statesAtFirst();
        weights();
        asManyBindsAsTheTextTakes();
        wallsAtMostEight();
        ks();
        moreThanOneWall();
        foreseens();
        minuteAtFirst();
        zoneNumbers();
        tripNumbers();
        deviceNumbers();
    }

    private static void tokenTests() {
        everyByteBetweenClauses();
        everyByteBetweenNumbers();
        wordsAreTheLongestRow();
        wordsToTheLetter();
        numbersOfDigits();
        blanksCountForNothing();
        anyNumberOfClauses();
        perhapsAFilter();
    }

    private static void faultTests() {
        endsTooSoon();
        cantStandThere();
        fourDigits();
        oneTooMuchAtItsWord();
        toldAhead();
        bindOfHotOrCritical();
        boundAlready();
        wallToItself();
        secondForeseen();
        secondCritical();
        firstAlongTheText();
        leastOfOneToken();
        firstByteOfTheToken();
    }

    private static void taken(String text) {
        CHECK.fault(text, 0, -1);
    }

    // ---- promises 1 and 2

    /** Promise 1: "Nothing is told." */
    private static void nothingIsTold() {
        HeatGovernor g = new HeatGovernor();
        for (int what = 0; what < 20; what++) {
            // FIRST, which and NEEDED are none; AGAIN is 1, since nothing can move.
            int due = what == 9 || what == 10 || what == 11 ? -1 : what == 12 ? 1 : 0;
            CHECK.same("new: count(" + what + ")", g.count(what), due);
        }
        CHECK.same("new: fault()", g.fault(), -1);
        CHECK.noSuch("new: zone(0, 0)", () -> g.zone(0, 0));
        CHECK.noSuch("new: trip(0, 0)", () -> g.trip(0, 0));
        CHECK.noSuch("new: device(0, 0)", () -> g.device(0, 0));
        CHECK.noSuch("new: bind(0, 0, 0)", () -> g.bind(0, 0, 0));
        CHECK.noSuch("new: log(0, 0)", () -> g.log(0, 0));
        CHECK.noSuch("new: ahead(0, 0, 0)", () -> g.ahead(0, 0, 0));
        CHECK.noSuch("new: bears(0, 1, 0)", () -> g.bears(0, 1, 0));
        CHECK.noSuch("new: flips(0, 1)", () -> g.flips(0, 1));
        CHECK.noSuch("new: fits(0, 0)", () -> g.fits(0, 0));
        CHECK.noSuch("new: look(0, 0)", () -> g.look(0, 0));
        CHECK.row("new: no zone, no device, no act, no image", new int[] {g.load(0, 1), g.hold(0, 0), g.start(0),
            g.note(0, 0, 200), g.undo(), g.restore() ? 1 : 0}, -1, -2, -1, -1, -1, 0);
    }

    /** Promise 2: "Twenty bytes come behind the tape, of each number the highest first: how many it has". */
    private static void eachByteHasItsPlace() {
        for (int place = 0; place < 20; place++) {
            HeatGovernor g = new HeatGovernor();
            int[] n = new int[5];
            Arrays.fill(n, BLANKS);
            // 255 is the highest byte of a number below 0, too.
            n[place / 4] |= 255 << 24 - 8 * (place % 4);
            CHECK.same("twenty bytes", g.feed(n[0], n[1], n[2], n[3], n[4]), 20);
            CHECK.row("the one that is no TOKEN", new int[] {g.plan(20), g.fault()}, 1, place);
        }
    }

    /** Promise 2: "Twenty bytes come behind the tape". */
    private static void bytesComeBehindTheTape() {
        HeatGovernor g = new HeatGovernor();
        // A word on both sides of the seam: "zo" is byte 18 and 19, "ne" 20 and 21.
        CHECK.same("the first twenty", g.feed(BLANKS, BLANKS, BLANKS, BLANKS, 0x20207a6f), 20);
        CHECK.same("twenty more", g.feed(0x6e652037, 0x20393b20, BLANKS, BLANKS, BLANKS), 40);
        CHECK.row("zone 7 9;", new int[] {g.plan(40), g.count(0), g.zone(0, 3), g.zone(0, 4)}, 0, 1, 7, 9);
    }

    /** Promise 2: "NONE, and none come, if it would have more than 700." */
    private static void tapeIsFull() {
        HeatGovernor g = new HeatGovernor();
        for (int bytes = 20; bytes <= 680; bytes += 20) {
            CHECK.same("bytes", g.feed(BLANKS, BLANKS, BLANKS, BLANKS, BLANKS), bytes);
        }
        CHECK.same("the last twenty", g.feed(BLANKS, BLANKS, BLANKS, BLANKS, BLANKS), 700);
        CHECK.same("would be 720", g.feed(-1, -1, -1, -1, -1), -1);
        CHECK.same("would be 720, again", g.feed(-1, -1, -1, -1, -1), -1);
        CHECK.same("none come", g.count(16), 700);
        CHECK.row("no status counts that", new int[] {g.count(17), g.count(18), g.count(19)}, 0, 0, 0);
        CHECK.same("blanks alone, as they came", g.plan(700), 0);
        CHECK.same("room again", g.feed(BLANKS, BLANKS, BLANKS, BLANKS, BLANKS), 20);
    }

    // ---- promises 3 and 4

    /** Promise 3: "The tape's first n bytes (it is empty then) are a TEXT" (n is 0: "TEXT: CLAUSE*"). */
    private static void noByteIsAText() {
        HeatGovernor g = Check.told(ZONE);
        CHECK.row("of an empty tape", new int[] {g.plan(0), g.count(0), g.fault()}, 0, 0, -1);
        Check.feed(g, ZONE + ZONE);
        CHECK.row("of a tape with bytes", new int[] {g.plan(0), g.count(0), g.count(16)}, 0, 0, 0);
    }

    /** Promise 3: "The tape's first n bytes (it is empty then) are a TEXT". */
    private static void firstBytesAlone() {
        HeatGovernor g = new HeatGovernor();
        Check.feed(g, ZONE + "!zone");
        CHECK.row("a byte ahead of the fault", new int[] {g.plan(9), g.count(0), g.count(16)}, 0, 1, 0);
        Check.feed(g, ZONE + "!zone");
        CHECK.row("a byte more", new int[] {g.plan(10), g.fault()}, 1, 9);
        Check.feed(g, ZONE + "!zone");
        CHECK.row("a byte less", new int[] {g.plan(8), g.fault()}, 1, 8);
    }

    /** Promise 3 (part 1): "A TEXT of at most 700 bytes tells all." */
    private static void wholeTape() {
        String text = " ".repeat(691) + "zone 7 9;";
        HeatGovernor g = new HeatGovernor();
        Check.feed(g, text);
        CHECK.row("700 bytes, to the last one", new int[] {g.plan(700), g.count(0), g.zone(0, 3), g.zone(0, 4)}, 0, 1, 7, 9);
        Check.feed(g, text);
        CHECK.row("699: the last one is missing", new int[] {g.plan(699), g.fault()}, 1, 699);
        Check.feed(g, text.substring(0, 699) + " ");
        CHECK.row("700 that end too soon", new int[] {g.plan(700), g.fault()}, 1, 700);
    }

    /** Promise 3: "(it is empty then)" (with a FAULT, too). */
    private static void emptyBehindAFault() {
        HeatGovernor g = new HeatGovernor();
        CHECK.same("a fault", Check.plan(g, ZONE + "?"), 1);
        CHECK.same("no byte is left", g.count(16), 0);
        CHECK.illegal("not even one", () -> g.plan(1));
        CHECK.same("the next bytes are the first ones", Check.plan(g, ZONE), 0);
    }

    /** Promise 3: "all anew: 0". */
    private static void allAnew() {
        HeatGovernor g = Check.told("zone 60 50 mean 4;trip 0 step 210 0;trip 0 critical 300 0;device fan 0 9 1;bind 0 0 1;"
                + "foreseen 9;");
        g.minutes(9);
        g.hold(0, 3);
        g.load(0, 9);
        g.foresee(2);
        String text = "zone 60 50 mean 4;trip 0 step 210 0;trip 0 critical 300 0;device fan 0 9 1;bind 0 0 1;";
        CHECK.same("all anew", Check.plan(g, text), 0);
        CHECK.alike("as a new object by that text", Check.everything(g), Check.everything(Check.told(text)));
        g.minutes(9);
        HeatGovernor other = Check.told(text);
        other.minutes(9);
        CHECK.alike("and goes on like it", Check.everything(g), Check.everything(other));
    }

    // As many of each as there may be, or nearly so.
    private static final String MUCH = ZONE.repeat(5) + "trip 0 critical 300 0;trip 1 step 300 0;trip 1 share 300 0;"
            + "device fan 0 1 1;device pump 1 1 1;bind 1 0 1;bind 1 1 1;bind 2 0 1;wall 0 1 9;wall 1 2 9;foreseen 9;";

    /** Promise 3: "all anew: 0" (nothing is left of a TEXT with a FAULT, which told much ahead of that). */
    private static void allAnewBehindAFault() {
        HeatGovernor g = new HeatGovernor();
        CHECK.same("much, and a fault", Check.plan(g, MUCH + "?"), 1);
        CHECK.same("little", Check.plan(g, ZONE + ZONE), 0);
        CHECK.alike("no more than that", Check.everything(g), Check.everything(Check.told(ZONE + ZONE)));
        Check.plan(g, MUCH + "?");
        CHECK.same("much, from its begin", Check.plan(g, MUCH), 0);
        CHECK.row("as told", new int[] {g.count(0), g.count(1), g.count(2), g.count(3), g.count(4), g.count(6)}, 5, 3, 2, 3, 2, 9);
    }

    /** Promise 3: "all anew: 0" (nor is anything left of the TEXTS ahead, of whichever one). */
    private static void allAnewAgainAndAgain() {
        HeatGovernor g = new HeatGovernor();
        for (int i = 0; i < 3; i++) {
            CHECK.row("much", new int[] {Check.plan(g, MUCH), g.count(0), g.count(3)}, 0, 5, 3);
            CHECK.row("much, again", new int[] {Check.plan(g, MUCH), g.count(0), g.count(3)}, 0, 5, 3);
            CHECK.same("little", Check.plan(g, ZONE), 0);
            CHECK.row("little", new int[] {g.count(0), g.count(1), g.count(2), g.count(3), g.count(4), g.count(6)}, 1, 0, 0, 0, 0, 0);
        }
    }

    /** Promise 3: "0, or the FAULT (all stays, but STATUS)." */
    private static void allStaysWithAFault() {
        // A fault of each kind, and each behind clauses that are right.
        String[] texts = {"zone 5 5;zone", "zone 5 5;zone 5 51;", "zone 5 5;wall 0 1 5;", "zone 5 5;zone 5 5;wall 1 1 5;"};
        for (int kind = 1; kind <= 4; kind++) {
            HeatGovernor g = inTheMidst();
            String before = Check.everything(g);
            CHECK.same("the fault", Check.plan(g, texts[kind - 1]), kind);
            CHECK.alike("all stays", Check.everything(g), before);
            CHECK.row("STATUS 0 is one more", new int[] {g.count(17), g.count(18), g.count(19)}, 2, 1, 1);
            CHECK.row("the image stays", new int[] {g.restore() ? 1 : 0, g.count(5)}, 1, 2);
        }
    }

    /** With a refused text, rows, acts, a note, refused calls and an image of MINUTE 2. */
    private static HeatGovernor inTheMidst() {
        HeatGovernor g = Check.told("zone 60 50 mean 2;trip 0 step 210 0;trip 0 critical 300 0;device fan 0 9 1;bind 0 0 1;"
                + "foreseen 3;");
        Check.plan(g, ZONE + "!");
        g.minutes(2);
        g.image();
        g.minutes(7);
        g.load(0, 9);
        g.note(0, 1, 300);
        g.note(0, 61, 300);
        g.minutes(61);
        return g;
    }

    /** Promise 3: "ACTS, THE LOG, what is NOTED, the image are gone." */
    private static void allIsGone() {
        // TEMPS 230, 240, 230, 240 ..: a row in each minute.
        HeatGovernor g = Check.told("zone 30 50;trip 0 step 230 0;device valve 0 9 20;bind 0 0 1;trip 0 hot 235 0;");
        for (int i = 0; i < 41; i++) {
            g.minutes(1);
        }
        for (int i = 0; i < 8; i++) {
            g.note(0, i, 200);
        }
        g.image();
        CHECK.row("as much as may be", new int[] {g.count(13), g.count(14), g.count(15)}, 40, 40, 8);
        CHECK.same("a text", Check.plan(g, ZONE), 0);
        CHECK.row("gone", new int[] {g.count(13), g.count(14), g.count(15), g.restore() ? 1 : 0, g.undo()}, 0, 0, 0, 0, -1);
        CHECK.noSuch("no row", () -> g.log(0, 0));
        CHECK.row("all leaks fit", new int[] {g.fits(0, 0), g.fits(0, 1)}, 50, 1);
        CHECK.row("all that may be, again", new int[] {g.note(0, 0, 200), g.minutes(1), g.count(14)}, 1, 1, 1);
    }

    /** Promise 3: "IllegalArgumentException: the tape has not so many, n below 0 (nothing changes)." */
    private static void notSoManyBytes() {
        int[] tapes = {0, 20, 680, 700};
        for (int bytes : tapes) {
            notSoMany(bytes);
        }
        HeatGovernor g = inTheMidst();
        Check.feed(g, ZONE);
        String before = Check.everything(g);
        int[] odd = {21, 700, 701, -1, Integer.MIN_VALUE, Integer.MAX_VALUE};
        for (int n : odd) {
            CHECK.illegal("plan(" + n + ") of 20", () -> g.plan(n));
        }
        CHECK.alike("nothing changes", Check.everything(g), before);
        CHECK.row("nor do STATUS and the FAULT", new int[] {g.count(17), g.count(18), g.count(19), g.fault()}, 1, 1, 1, 9);
        CHECK.row("nor does the tape", new int[] {g.count(16), g.plan(20), g.zone(0, 3)}, 20, 0, 1);
    }

    /** A tape of so many blanks: one byte more than these is refused, all of them are taken. */
    private static void notSoMany(int bytes) {
        HeatGovernor g = new HeatGovernor();
        Check.feed(g, " ".repeat(bytes));
        CHECK.same("bytes", g.count(16), bytes);
        CHECK.illegal("one more than " + bytes, () -> g.plan(bytes + 1));
        CHECK.illegal("one below 0 of " + bytes, () -> g.plan(-1));
        CHECK.same("they stay", g.count(16), bytes);
        CHECK.same("all of " + bytes, g.plan(bytes), 0);
    }

    /** Promise 4: "The place of the latest plan()'s FAULT; NONE without." (The first place and the last one.) */
    private static void placeOfTheFault() {
        HeatGovernor g = new HeatGovernor();
        CHECK.same("without a plan", g.fault(), -1);
        Check.plan(g, "!");
        CHECK.same("the first byte", g.fault(), 0);
        Check.plan(g, " ".repeat(699) + "!");
        CHECK.same("the last byte", g.fault(), 699);
        Check.plan(g, " ".repeat(696) + "zone");
        CHECK.same("the length of the longest text", g.fault(), 700);
    }

    /** Promise 4: "The place of the latest plan()'s FAULT; NONE without." (The latest one.) */
    private static void latestPlan() {
        HeatGovernor g = new HeatGovernor();
        Check.plan(g, ZONE + "!");
        CHECK.illegal("no plan", () -> g.plan(1));
        CHECK.same("still that one's", g.fault(), 9);
        Check.plan(g, " !");
        CHECK.same("the next one's", g.fault(), 1);
        g.plan(0);
        CHECK.same("none", g.fault(), -1);
    }

    // ---- part 1: how many, how much

    /** So many of a clause are taken; one more is fault 2 at its word. */
    private static void atMost(String ahead, String clause, int most, int what) {
        HeatGovernor g = new HeatGovernor();
        CHECK.same("one less than most", Check.plan(g, ahead + clause.repeat(most - 1)), 0);
        CHECK.same("count", g.count(what), most - 1);
        CHECK.same("as many as may be", Check.plan(g, ahead + clause.repeat(most)), 0);
        CHECK.same("count", g.count(what), most);
        CHECK.fault(ahead + clause.repeat(most + 1), 2, ahead.length() + clause.length() * most);
        CHECK.same("one too many: all stays", Check.plan(g, ahead + clause.repeat(most + 1)), 2);
        CHECK.same("count", g.count(what), most);
    }

    /** A NUMBER from least to most: both are taken, those beside them are fault 2 at its first byte. */
    private static void range(String ahead, String behind, int least, int most) {
        taken(ahead + least + behind);
        taken(ahead + most + behind);
        CHECK.fault(ahead + (most + 1) + behind, 2, ahead.length());
        if (least > 0) {
            CHECK.fault(ahead + (least - 1) + behind, 2, ahead.length());
        }
    }

    /** Promise 3 (part 1): "ZONES 0, 1 .. (at most 5)". */
    private static void zonesAtMostFive() {
        atMost("", ZONE, 5, 0);
        HeatGovernor g = Check.told(ZONE.repeat(4) + "zone 9 8;");
        CHECK.row("the last one", new int[] {g.zone(4, 3), g.zone(4, 4)}, 9, 8);
        CHECK.noSuch("zone 5", () -> g.zone(5, 0));
    }

    /** Promise 6 (part 1): "each with a HEAT (200 at first)" and "SHUT or not". */
    private static void zoneAtFirst() {
        HeatGovernor g = Check.told("zone 99 1;zone 0 50 slow 4;");
        for (int z = 0; z < 2; z++) {
            CHECK.row("at first", new int[] {g.zone(z, 0), g.zone(z, 1), g.zone(z, 2), g.zone(z, 7), g.zone(z, 8)},
                    200, 200, 0, 0, 0);
        }
    }

    /** Promise 3 (part 1): "a LOAD (0 to 99)". */
    private static void loads() {
        range("zone ", " 1;", 0, 99);
        HeatGovernor g = Check.told("zone 0 1;zone 99 1;");
        CHECK.row("told", new int[] {g.zone(0, 3), g.zone(1, 3)}, 0, 99);
    }

    /** Promise 3 (part 1): "a LEAK (1 to 50)". */
    private static void leaks() {
        range("zone 0 ", ";", 1, 50);
        HeatGovernor g = Check.told("zone 0 1;zone 0 50;");
        CHECK.row("told", new int[] {g.zone(0, 4), g.zone(1, 4)}, 1, 50);
    }

    /** Promise 3 (part 1): "a DEPTH of 1 to 4". */
    private static void depths() {
        String[] words = {"mean", "median", "slow"};
        for (int kind = 1; kind <= 3; kind++) {
            range("zone 0 1 " + words[kind - 1] + " ", ";", 1, 4);
            for (int depth = 1; depth <= 4; depth++) {
                HeatGovernor g = Check.told("zone 0 1 " + words[kind - 1] + " " + depth + ";");
                CHECK.row("told", new int[] {g.zone(0, 5), g.zone(0, 6)}, kind, depth);
            }
        }
    }

    /** Promise 6 (part 1): "a FILTER (KIND 0 raw, 1 mean, 2 median, 3 slow, and a DEPTH of 1 to 4; 0 and 1 without)". */
    private static void withoutFilter() {
        HeatGovernor g = Check.told("zone 0 1;");
        CHECK.row("without", new int[] {g.zone(0, 5), g.zone(0, 6)}, 0, 1);
        CHECK.fault("zone 0 1 1;", 1, 9);
        CHECK.fault("zone 0 1 raw;", 1, 9);
    }

    /** Promise 3 (part 1): "(DEPTH 3 without)". */
    private static void depthThreeWithout() {
        HeatGovernor g = Check.told("zone 0 1 mean;zone 0 1 median;zone 0 1 slow;");
        CHECK.row("depths", new int[] {g.zone(0, 6), g.zone(1, 6), g.zone(2, 6)}, 3, 3, 3);
        CHECK.row("kinds", new int[] {g.zone(0, 5), g.zone(1, 5), g.zone(2, 5)}, 1, 2, 3);
    }

    /** Promise 3 (part 1): "TRIPS 0, 1 .. of all (at most 10)". */
    private static void tripsAtMostTen() {
        atMost(ZONE, "trip 0 hot 300 0;", 10, 1);
        // Of all: five of each of two zones are ten.
        String five = ZONE + ZONE + "trip 0 hot 300 0;".repeat(5) + "trip 1 step 300 0;".repeat(4);
        HeatGovernor g = Check.told(five + "trip 1 share 400 7;");
        CHECK.row("the last one", new int[] {g.trip(9, 0), g.trip(9, 1), g.trip(9, 2), g.trip(9, 3)}, 1, 1, 400, 7);
        CHECK.noSuch("trip 10", () -> g.trip(10, 0));
        CHECK.fault(five + "trip 1 hot 300 0;".repeat(2), 2, five.length() + 17);
    }

    /** Promise 7 (part 1): "of a SORT (0 step, 1 share, 2 hot, 3 critical)". */
    private static void sorts() {
        HeatGovernor g = Check.told(ZONE + "trip 0 step 300 0;trip 0 share 300 0;trip 0 hot 300 0;trip 0 critical 300 0;");
        CHECK.row("sorts", new int[] {g.trip(0, 1), g.trip(1, 1), g.trip(2, 1), g.trip(3, 1)}, 0, 1, 2, 3);
        String[] others = {"steps", "shar", "mean", "fan", "zone", "3"};
        for (String other : others) {
            CHECK.fault(ZONE + "trip 0 " + other + " 300 0;", 1, 16);
        }
    }

    /** Promise 3 (part 1): "AT (200 to 999)". */
    private static void ats() {
        range(ZONE + "trip 0 hot ", " 0;", 200, 999);
        HeatGovernor g = Check.told(ZONE + "trip 0 hot 200 0;trip 0 hot 999 0;");
        CHECK.row("told", new int[] {g.trip(0, 2), g.trip(1, 2)}, 200, 999);
    }

    /** Promise 3 (part 1): "with a DROP (0 to 99)". */
    private static void drops() {
        range(ZONE + "trip 0 hot 300 ", ";", 0, 99);
        HeatGovernor g = Check.told(ZONE + "trip 0 hot 200 0;trip 0 hot 200 99;");
        CHECK.row("told", new int[] {g.trip(0, 3), g.trip(1, 3)}, 0, 99);
    }

    /** Promise 7 (part 1): "ON or OFF (at first)". */
    private static void tripsAreOffAtFirst() {
        // TEMP is 200 at first, and that is AT already; it goes ON when a minute goes by, not ahead of that.
        HeatGovernor g = Check.told("zone 0 50;trip 0 hot 200 0;");
        CHECK.row("at first", new int[] {g.trip(0, 4), g.trip(0, 5), g.count(8), g.count(13)}, 0, 0, 0, 0);
        g.minutes(1);
        CHECK.row("a minute later", new int[] {g.trip(0, 4), g.trip(0, 5), g.count(8), g.count(13)}, 1, 1, 1, 1);
    }

    /** Promise 3 (part 1): "DEVICES 0, 1 .. (at most 6)". */
    private static void devicesAtMostSix() {
        atMost(ZONE, "device fan 0 1 1;", 6, 2);
        HeatGovernor g = Check.told(ZONE + "device fan 0 1 1;".repeat(5) + "device pump 0 7 8;");
        CHECK.row("the last one", new int[] {g.device(5, 0), g.device(5, 1), g.device(5, 2), g.device(5, 3)}, 2, 0, 7, 8);
        CHECK.noSuch("device 6", () -> g.device(6, 0));
    }

    /** Promise 8 (part 1): "each of a MAKE (0 fan, 1 valve, 2 pump)". */
    private static void makes() {
        HeatGovernor g = Check.told(ZONE + "device fan 0 1 1;device valve 0 1 1;device pump 0 1 1;");
        CHECK.row("makes", new int[] {g.device(0, 0), g.device(1, 0), g.device(2, 0)}, 0, 1, 2);
        String[] others = {"fans", "valv", "step", "slow", "zone", "2"};
        for (String other : others) {
            CHECK.fault(ZONE + "device " + other + " 0 1 1;", 1, 16);
        }
    }

    /** Promise 3 (part 1): "with a MOST (1 to 9)". */
    private static void mosts() {
        range(ZONE + "device fan 0 ", " 1;", 1, 9);
        HeatGovernor g = Check.told(ZONE + "device fan 0 1 1;device fan 0 9 1;");
        CHECK.row("told", new int[] {g.device(0, 2), g.device(1, 2)}, 1, 9);
    }

    /** Promise 3 (part 1): "a COOL (1 to 30)". */
    private static void cools() {
        range(ZONE + "device fan 0 1 ", ";", 1, 30);
        HeatGovernor g = Check.told(ZONE + "device fan 0 1 1;device fan 0 1 30;");
        CHECK.row("told", new int[] {g.device(0, 3), g.device(1, 3)}, 1, 30);
    }

    /** Promise 8 (part 1): "a STATE (0 to MOST; 0 at first)". */
    private static void statesAtFirst() {
        HeatGovernor g = Check.told("zone 99 50;trip 0 share 200 0;device valve 0 3 1;bind 0 0 1;");
        CHECK.row("at first", new int[] {g.device(0, 4), g.device(0, 5), g.device(0, 6)}, 0, -1, 0);
        g.minutes(1);
        CHECK.same("MOST", g.device(0, 4), 3);
        g.minutes(5);
        CHECK.same("no more than MOST", g.device(0, 4), 3);
    }

    /** Promise 3 (part 1): "of a WEIGHT (1 to 9)". */
    private static void weights() {
        String ahead = ZONE + "trip 0 step 300 0;trip 0 share 300 0;device fan 0 1 1;";
        range(ahead + "bind 0 0 ", ";", 1, 9);
        HeatGovernor g = Check.told(ahead + "bind 0 0 1;bind 1 0 9;");
        CHECK.row("told", new int[] {g.bind(0, 0, 0), g.bind(1, 0, 0)}, 1, 9);
    }

    /** Promise 5 (part 1): "BINDS of a TRIP (step or share) and a DEVICE" (the document tells no most of them). */
    private static void asManyBindsAsTheTextTakes() {
        // Eight trips and six devices leave room for 47 binds in 700 bytes, one less than there might be.
        StringBuilder text = new StringBuilder("zone0 1;");
        text.append("trip0step200 0;".repeat(8)).append("device fan0 1 1;".repeat(6));
        for (int i = 0; i < 47; i++) {
            text.append("bind").append(i / 6).append(' ').append(i % 6).append(' ').append(1 + i % 9).append(';');
        }
        HeatGovernor g = Check.told(text.toString());
        CHECK.row("all of them", new int[] {g.count(3), g.trip(0, 7), g.trip(7, 7), g.bind(7, 4, 0), g.bind(7, 5, 0)},
                47, 6, 5, 2, 0);
        g.minutes(1);
        CHECK.row("nothing rises", new int[] {g.count(8), g.bind(0, 0, 1), g.bind(7, 4, 1)}, 255, 0, 0);
        g.load(0, 9);
        g.minutes(1);
        CHECK.row("the first and the last", new int[] {g.bind(0, 0, 1), g.bind(7, 4, 1), g.bind(7, 5, 1)}, 1, 1, 0);
    }

    /** Promise 3 (part 1): "at most 8" (of "WALLS between two ZONES"). */
    private static void wallsAtMostEight() {
        atMost(ZONE + ZONE, "wall 0 1 9;", 8, 4);
        // Through each of the eight 5 go from 240 to 200.
        HeatGovernor g = Check.told("zone 40 50;zone 0 50;" + "wall 0 1 8;".repeat(8));
        g.minutes(1);
        g.load(0, 0);
        g.minutes(1);
        CHECK.row("through all of them", new int[] {g.zone(0, 0), g.zone(1, 0)}, 200, 240);
    }

    /** Promise 3 (part 1): "WALLS between two ZONES, of a K (1 to 50". */
    private static void ks() {
        range(ZONE + ZONE + "wall 0 1 ", ";", 1, 50);
        // 250 and 200: all that is more goes through a K of 1, and 1 through a K of 50.
        HeatGovernor open = Check.told("zone 50 50;zone 0 50;wall 0 1 1;");
        open.minutes(2);
        CHECK.same("K 1", open.zone(1, 0), 250);
        HeatGovernor thick = Check.told("zone 50 50;zone 0 50;wall 0 1 50;");
        thick.minutes(2);
        CHECK.same("K 50", thick.zone(1, 0), 201);
    }

    /** Promise 3 (part 1): "more than one may be" (a WALL between the same two ZONES). */
    private static void moreThanOneWall() {
        HeatGovernor g = Check.told("zone 40 50;zone 0 50;wall 0 1 4;wall 0 1 4;wall 1 0 4;");
        CHECK.same("three walls", g.count(4), 3);
        g.minutes(2);
        // 240 and 200: 10 through each.
        CHECK.row("through each", new int[] {g.zone(0, 0), g.zone(1, 0)}, 250, 230);
    }

    /** Promise 3 (part 1): "FORESEEN (0 to 9; 0 without)." */
    private static void foreseens() {
        range("foreseen ", ";", 0, 9);
        CHECK.row("told", new int[] {Check.told("foreseen 0;").count(6), Check.told("foreseen 9;").count(6)}, 0, 9);
        HeatGovernor g = Check.told("foreseen 9;");
        Check.plan(g, ZONE);
        CHECK.same("without", g.count(6), 0);
    }

    /** Promise 5 (part 1): "MINUTE is 0 at first." */
    private static void minuteAtFirst() {
        HeatGovernor g = Check.told(ZONE);
        CHECK.same("at first", g.count(5), 0);
        g.minutes(60);
        Check.plan(g, ZONE);
        CHECK.same("at first, again", g.count(5), 0);
    }

    /** Promise 3 (part 1): "not as told (ZONE 0 to 4". */
    private static void zoneNumbers() {
        String five = ZONE.repeat(5);
        range(five + "trip ", " hot 300 0;", 0, 4);
        range(five + "device fan ", " 1 1;", 0, 4);
        range(five + "wall ", " 1 9;", 0, 4);
        range(five + "wall 1 ", " 9;", 0, 4);
    }

    /** Promise 3 (part 1): "TRIP 0 to 9". */
    private static void tripNumbers() {
        range(ZONE + "trip 0 step 300 0;".repeat(10) + "device fan 0 1 1;bind ", " 0 1;", 0, 9);
    }

    /** Promise 3 (part 1): "DEVICE 0 to 5". */
    private static void deviceNumbers() {
        range(ZONE + "trip 0 step 300 0;" + "device fan 0 1 1;".repeat(6) + "bind 0 ", " 1;", 0, 5);
    }

    // ---- part 1: tokens

    /** Promise 3 (part 1): "blanks (32, 10) between them" (every other byte there is a FAULT). */
    private static void everyByteBetweenClauses() {
        for (int sign = 0; sign < 256; sign++) {
            boolean blank = sign == 32 || sign == 10;
            // A letter goes on as a word that is none; all else can't stand at the begin of a clause.
            CHECK.fault(ZONE + (char) sign + ZONE, blank ? 0 : 1, blank ? -1 : 9);
        }
    }

    /** Promise 3 (part 1): "words (a .. z, the longest row), NUMBERS (1 to 3 digits), the sign ; and blanks (32, 10)". */
    private static void everyByteBetweenNumbers() {
        for (int sign = 0; sign < 256; sign++) {
            boolean blank = sign == 32 || sign == 10;
            boolean digit = sign >= '0' && sign <= '9';
            // 102 to 192 are too much for a LOAD; with another sign LOAD is 1 and the sign no LEAK.
            CHECK.fault("zone 1" + (char) sign + "2;", blank ? 0 : digit ? 2 : 1, blank ? -1 : digit ? 5 : 6);
        }
        for (int sign = 0; sign < 256; sign++) {
            boolean blank = sign == 32 || sign == 10;
            boolean letter = sign >= 'a' && sign <= 'z';
            boolean digit = sign >= '0' && sign <= '9';
            // Behind a word: a letter makes it another word, a digit a number of two digits.
            int place = letter ? 0 : 4;
            CHECK.fault("zone" + (char) sign + "1 2;", blank || digit ? 0 : 1, blank || digit ? -1 : place);
        }
    }

    /** Promise 3 (part 1): "words (a .. z, the longest row)". */
    private static void wordsAreTheLongestRow() {
        CHECK.fault("zonea 1 2;", 1, 0);
        CHECK.fault("zonez 1 2;", 1, 0);
        CHECK.fault("zon 1 2;", 1, 0);
        CHECK.fault("zo ne 1 2;", 1, 0);
        CHECK.fault("zone 1 2 meanslow;", 1, 9);
        CHECK.fault(ZONE + "devicefan 0 1 1;", 1, 9);
        CHECK.fault("zone`1 2;", 1, 4);
        CHECK.fault("zone{1 2;", 1, 4);
        CHECK.fault("zone 1/2;", 1, 6);
        CHECK.fault("zone 1:2;", 1, 6);
    }

    /** Promise 3 (part 1): "In quotes is what stands there" (another letter anywhere in a word is another word). */
    private static void wordsToTheLetter() {
        String trip = ZONE + "trip 0 step 300 0;device fan 0 1 1;";
        String[][] words = {{"", "zone", " 1 2;"}, {ZONE, "trip", " 0 hot 300 0;"}, {ZONE, "device", " fan 0 1 1;"},
            {trip, "bind", " 0 0 1;"}, {ZONE + ZONE, "wall", " 0 1 9;"}, {"", "foreseen", " 1;"}, {"zone 1 2 ", "mean", ";"},
            {"zone 1 2 ", "median", " 1;"}, {"zone 1 2 ", "slow", ";"}, {ZONE + "trip 0 ", "step", " 300 0;"},
            {ZONE + "trip 0 ", "share", " 300 0;"}, {ZONE + "trip 0 ", "hot", " 300 0;"},
            {ZONE + "trip 0 ", "critical", " 300 0;"}, {ZONE + "device ", "fan", " 0 1 1;"},
            {ZONE + "device ", "valve", " 0 1 1;"}, {ZONE + "device ", "pump", " 0 1 1;"}};
        for (String[] word : words) {
            taken(word[0] + word[1] + word[2]);
            CHECK.fault(word[0] + word[1].toUpperCase() + word[2], 1, word[0].length());
            for (int i = 0; i < word[1].length(); i++) {
                String other = word[1].substring(0, i) + "x" + word[1].substring(i + 1);
                CHECK.fault(word[0] + other + word[2], 1, word[0].length());
                CHECK.fault(word[0] + word[1].substring(0, i) + word[1].substring(i + 1) + word[2], 1, word[0].length());
            }
        }
    }

    /** Promise 3 (part 1): "NUMBERS (1 to 3 digits)". */
    private static void numbersOfDigits() {
        String[] sevens = {"7", "07", "007"};
        for (String seven : sevens) {
            HeatGovernor g = Check.told("zone " + seven + " " + seven + " mean 003;");
            CHECK.row("seven", new int[] {g.zone(0, 3), g.zone(0, 4), g.zone(0, 6)}, 7, 7, 3);
        }
        CHECK.fault("zone 0007 7;", 2, 5);
        taken("zone 000 1;");
        CHECK.fault("zone 0000 1;", 2, 5);
    }

    /** Promise 3 (part 1): "blanks (32, 10) between them, which count for nothing". */
    private static void blanksCountForNothing() {
        String[] texts = {"zone1 2mean4;trip0hot300 0;", " \n zone \n 1\n2 mean\n\n4 ;\ntrip 0\nhot\n300 0\n;\n \n"};
        for (String text : texts) {
            HeatGovernor g = Check.told(text);
            CHECK.row("alike", new int[] {g.zone(0, 3), g.zone(0, 4), g.zone(0, 6), g.trip(0, 2), g.trip(0, 3)},
                    1, 2, 4, 300, 0);
        }
        taken(" ");
        taken("\n");
        CHECK.fault("zone 12;", 1, 7);
    }

    /** Promise 3 (part 1): "TEXT: CLAUSE*." */
    private static void anyNumberOfClauses() {
        taken("");
        taken(ZONE);
        taken(ZONE + "foreseen 1;" + ZONE);
        CHECK.fault(";", 1, 0);
        CHECK.fault(ZONE + ";", 1, 9);
    }

    /** Promise 3 (part 1): "[('mean' | 'median' | 'slow') [DEPTH]]". */
    private static void perhapsAFilter() {
        taken("zone 1 2;");
        taken("zone 1 2 slow;");
        taken("zone 1 2 slow 4;");
        CHECK.fault("zone 1 2 4;", 1, 9);
        CHECK.fault("zone 1 2 slow 4 4;", 1, 16);
        CHECK.fault("zone 1 2 slow slow;", 1, 14);
        CHECK.fault("zone 1 2 slow 4 mean;", 1, 16);
    }

    // ---- part 1: faults

    private static final String[] ALL_CLAUSES = {"zone 9 9 mean 2 ;", "zone 9 9 ;", "trip 0 step 300 9 ;",
        "device fan 0 9 9 ;", "bind 0 0 9 ;", "wall 0 1 9 ;", "foreseen 9 ;"};

    /** Promise 3 (part 1): "(the text's length where it ends too soon)". */
    private static void endsTooSoon() {
        String ahead = "";
        for (String clause : ALL_CLAUSES) {
            for (int end = clause.indexOf(' '); end >= 0; end = clause.indexOf(' ', end + 1)) {
                String cut = ahead + clause.substring(0, end);
                CHECK.fault(cut, 1, cut.length());
                CHECK.fault(cut + " ", 1, cut.length() + 1);
                CHECK.fault(cut + " \n ", 1, cut.length() + 3);
            }
            ahead += clause;
            taken(ahead);
            taken(ahead + " \n ");
        }
    }

    /** Promise 3 (part 1): "1 a TOKEN that can't stand there, or is none". */
    private static void cantStandThere() {
        String ahead = "";
        for (String clause : ALL_CLAUSES) {
            for (int place = 0; place < clause.length(); place = tokenBehind(clause, place)) {
                String cut = ahead + clause.substring(0, place);
                // A word that is none, a sign that is none, and the sign ; unless it may end the clause there.
                CHECK.fault(cut + "x ;", 1, cut.length());
                CHECK.fault(cut + "? ;", 1, cut.length());
                boolean mayEnd = clause.charAt(place) == ';' || clause.startsWith("zone") && place >= 9;
                CHECK.fault(cut + ";", mayEnd ? 0 : 1, mayEnd ? -1 : cut.length());
            }
            ahead += clause;
        }
    }

    private static int tokenBehind(String clause, int place) {
        int blank = clause.indexOf(' ', place);
        return blank < 0 ? clause.length() : blank + 1;
    }

    /** Promise 3 (part 1): "2 one that can, but is too much: a NUMBER of 4 digits or more". */
    private static void fourDigits() {
        String ahead = "";
        for (String clause : ALL_CLAUSES) {
            for (int place = 0; place < clause.length(); place = tokenBehind(clause, place)) {
                String cut = ahead + clause.substring(0, place);
                boolean number = clause.charAt(place) >= '0' && clause.charAt(place) <= '9';
                String rest = clause.substring(tokenBehind(clause, place));
                // Where no NUMBER can stand, the same token is fault 1.
                int due = number ? 2 : 1;
                CHECK.fault(cut + "0001 " + rest, due, cut.length());
                CHECK.fault(cut + "00000000000000000001 " + rest, due, cut.length());
                CHECK.fault(cut + "4294967297 " + rest, due, cut.length());
            }
            ahead += clause;
        }
    }

    /** Promise 3 (part 1): "the word of the 6th 'zone', the 11th 'trip', the 7th 'device', the 9th 'wall'". */
    private static void oneTooMuchAtItsWord() {
        String[] clauses = {"zone 9 9;", "trip 0 hot 300 9;", "device fan 0 9 9;", "wall 0 1 9;"};
        int[] most = {5, 10, 6, 8};
        for (int i = 0; i < clauses.length; i++) {
            String full = (i == 0 ? "" : ZONE + ZONE) + clauses[i].repeat(most[i]);
            String word = clauses[i].substring(0, clauses[i].indexOf(' '));
            taken(full);
            // The word is too much already, whatever comes behind it.
            CHECK.fault(full + word, 2, full.length());
            CHECK.fault(full + " " + word + " ?", 2, full.length() + 1);
            // A longer word is none.
            CHECK.fault(full + word + "s", 1, full.length());
        }
    }

    /** Promise 3 (part 1): "3 a ZONE, TRIP, DEVICE that isn't told ahead". */
    private static void toldAhead() {
        String two = ZONE + ZONE;
        untold(two + "trip ", " hot 300 0;", 1);
        untold(two + "device fan ", " 1 1;", 1);
        untold(two + "wall ", " 0 9;", 1);
        untold(two + "wall 0 ", " 9;", 1);
        String trips = ZONE + "trip 0 step 300 0;trip 0 share 300 0;device fan 0 1 1;device fan 0 1 1;";
        untold(trips + "bind ", " 0 1;", 1);
        untold(trips + "bind 0 ", " 1;", 1);
        CHECK.fault("trip 0 hot 300 0;" + ZONE, 3, 5);
        CHECK.fault("device fan 0 1 1;" + ZONE, 3, 11);
        CHECK.fault("wall 0 1 9;" + two, 3, 5);
        CHECK.fault("bind 0 0 1;" + trips, 3, 5);
    }

    /** The last one that is told is taken; the next one is fault 3, even if it is told behind. */
    private static void untold(String ahead, String behind, int last) {
        taken(ahead + last + behind);
        CHECK.fault(ahead + (last + 1) + behind, 3, ahead.length());
        CHECK.fault(ahead + (last + 1) + behind + ZONE + "trip 0 step 300 0;device fan 0 1 1;", 3, ahead.length());
    }

    /** Promise 3 (part 1): "4 a TRIP of 'bind' that is hot or critical". */
    private static void bindOfHotOrCritical() {
        String ahead = ZONE + "trip 0 step 300 0;trip 0 share 300 0;trip 0 hot 300 0;trip 0 critical 300 0;device fan 0 1 1;";
        taken(ahead + "bind 0 0 1;");
        taken(ahead + "bind 1 0 1;");
        CHECK.fault(ahead + "bind 2 0 1;", 4, ahead.length() + 5);
        CHECK.fault(ahead + "bind 3 0 1;", 4, ahead.length() + 5);
        CHECK.fault(ahead + "bind 4 0 1;", 3, ahead.length() + 5);
    }

    /** Promise 3 (part 1): "the DEVICE of a 'bind' that is told already for that TRIP". */
    private static void boundAlready() {
        String ahead = ZONE + "trip 0 step 300 0;trip 0 step 300 0;device fan 0 1 1;device fan 0 1 1;bind 0 1 3;";
        CHECK.fault(ahead + "bind 0 1 3;", 4, ahead.length() + 7);
        CHECK.fault(ahead + "bind 0 1 4;", 4, ahead.length() + 7);
        taken(ahead + "bind 0 0 3;");
        taken(ahead + "bind 1 1 3;");
        CHECK.fault(ahead + "bind 0 0 3;bind 1 0 3;bind 1 1 3;bind 0 1 3;", 4, ahead.length() + 40);
    }

    /** Promise 3 (part 1): "the second ZONE of a WALL, if it is the first one". */
    private static void wallToItself() {
        String two = ZONE + ZONE;
        CHECK.fault(two + "wall 0 0 9;", 4, 25);
        CHECK.fault(two + "wall 1 1 9;", 4, 25);
        taken(two + "wall 0 1 9;");
        taken(two + "wall 1 0 9;");
        CHECK.fault(two + "wall 2 2 9;", 3, 23);
    }

    /** Promise 3 (part 1): "a second 'foreseen'". */
    private static void secondForeseen() {
        taken("foreseen 0;");
        CHECK.fault("foreseen 0;foreseen 0;", 4, 11);
        CHECK.fault("foreseen 9;" + ZONE + "foreseen", 4, 20);
        CHECK.fault("foreseen 9;foreseens", 1, 11);
        HeatGovernor g = Check.told("foreseen 9;");
        CHECK.row("of another text", new int[] {Check.plan(g, "foreseen 8;"), g.count(6)}, 0, 8);
    }

    /** Promise 3 (part 1): "a second 'critical' of a ZONE". */
    private static void secondCritical() {
        String ahead = ZONE + ZONE + "trip 1 critical 300 0;";
        CHECK.fault(ahead + "trip 1 critical 400 0;", 4, ahead.length() + 7);
        CHECK.fault(ahead + "trip 1 critical", 4, ahead.length() + 7);
        taken(ahead + "trip 0 critical 400 0;");
        taken(ahead + "trip 1 hot 400 0;trip 1 step 400 0;");
        CHECK.fault(ahead + "trip 1 criticals 400 0;", 1, ahead.length() + 7);
        HeatGovernor g = Check.told(ahead);
        CHECK.same("of another text", Check.plan(g, ahead), 0);
    }

    /** Promise 3 (part 1): "FAULTS, the first along the text". */
    private static void firstAlongTheText() {
        // Of each kind, with a lesser one right behind it.
        CHECK.fault(ZONE + ZONE + "wall 1 1 0;", 4, 25);
        CHECK.fault(ZONE + "wall 0 1 0;", 3, 16);
        CHECK.fault("zone 100 x;", 2, 5);
        CHECK.fault("zone 1 51 ?", 2, 7);
        CHECK.fault("zone x 51;", 1, 5);
        CHECK.fault("foreseen 1;foreseen 10;", 4, 11);
    }

    /** Promise 3 (part 1): "of one TOKEN the least". */
    private static void leastOfOneToken() {
        // Not as told (2), and not told ahead (3).
        CHECK.fault("trip 5 hot 300 0;", 2, 5);
        CHECK.fault("trip 4 hot 300 0;", 3, 5);
        CHECK.fault("bind 10 0 1;", 2, 5);
        CHECK.fault("bind 9 0 1;", 3, 5);
        CHECK.fault(ZONE + "trip 0 step 300 0;bind 0 6 1;", 2, 34);
        CHECK.fault(ZONE + "trip 0 step 300 0;bind 0 5 1;", 3, 34);
        // Four digits (2), where no NUMBER can stand (1).
        CHECK.fault("1000", 1, 0);
        CHECK.fault("zone 1 2 1000;", 1, 9);
        CHECK.fault("zone 1 2 mean 1 1000;", 1, 16);
    }

    /** Promise 3 (part 1): "at a TOKEN's first byte". */
    private static void firstByteOfTheToken() {
        CHECK.fault("\n  zones 1 2;", 1, 3);
        CHECK.fault("zone   1000 2;", 2, 7);
        CHECK.fault("zone\n\n\n100 2;", 2, 7);
        CHECK.fault(ZONE + "wall  0   004 9;", 3, 19);
        CHECK.fault(ZONE + ZONE + "wall  1   001 9;", 4, 28);
    }
}
