import java.util.Map;
import java.util.TreeMap;
import java.util.function.Consumer;
import java.util.function.ToLongFunction;

/** What each call that isn't refused changes, and that it changes nothing else, be it seen at once or not. */
public final class ChangesTest {
    private static final Check check = new Check("ChangesTest");
    private static final int[] TOLD = {0, 1, 2, 3, 4, 5, 6, 7, 8, 12, 13, 14, 15, 16};
    private static final int[] KEPT = {0, 1, 2, 3, 4, 5, 7};

    /** What the next changes begin with. */
    private static Consumer<FasterToBeLater> set;

    public static void main(String[] args) {
        set = ChangesTest::rich;
        withShips();
        keeping();
        set = ChangesTest::newer;
        withShips();
        set = ChangesTest::bare;
        withNoShips();
        keepingNoShips();
        check.end();
    }

    private static void withShips() {
        shelves();
        circlesAndShips();
        tape();
        worldRead();
        inTruth();
        thoughts();
    }

    /** An image of two SHIPS, and two more since; see fourShips. */
    private static void rich(FasterToBeLater x) {
        Check.feed(x, "circles 3;ship 0 0 2 drops 9;ship 5 1 5 drops 50");
        x.seed(77);
        x.image();
        x.bolts(4);
        x.ship(0, 0, 0, 0);
        x.back();
        fourShips(x);
    }

    /** The same, but the image is of no SHIPS, so that back brings out its CIRCLES, also those that aren't there. */
    private static void newer(FasterToBeLater x) {
        x.circles(3);
        x.image();
        x.bolts(6);
        x.ship(0, 0, 0, 0);
        x.back();
        Check.feed(x, "ship 0 0 2 drops 9;ship 5 1 5 drops 50");
        fourShips(x);
    }

    /**
     * Of each refusal one; the last three of four SHIPS have been at one PLACE for three STEPS; ROWS in 0, 1 and 7, SHIP 1
     * in 2, SHIP 3 in 3; a TAPE that ends too early, so that each letter of it matters.
     */
    private static void fourShips(FasterToBeLater x) {
        x.seed(5);
        x.ship(2, 1, 5, 0);
        x.ship(3, 1, 5, 3);
        x.cost(1, 6);
        x.step(3);
        Check.put(x, 0, 0, 5, 6, 7);
        Check.put(x, 1, 0, 1, 0, 2);
        Check.put(x, 7, 3, 1L << 40);
        x.show(2, 1);
        x.show(3, 3);
        x.set(2, 0, 1);
        x.set(4, 0, 1);
        x.home(2, 0);
        x.row(0, 0, 41);
        Check.letters(x, "step 1;step");
    }

    /** No SHIPS; CIRCLES 3 to 5, with TIMES and COSTS of their own, aren't there; in the image only 5 isn't. */
    private static void bare(FasterToBeLater x) {
        x.circles(6);
        for (int c = 0; c < 6; c++) {
            x.time(c, 15 + c);
            x.cost(c, 4 + c);
        }
        x.circles(5);
        x.image();
        x.time(4, 7);
        x.circles(3);
        x.step(2);
        x.seed(9);
        Check.put(x, 0, 2, 8, 9);
        Check.put(x, 3, 4, 1, 0);
        Check.put(x, 7, 2, 4);
        Check.letters(x, "step 1;step");
    }

    /** All that can be asked: what is seen, what a read of THE TAPE would answer, what was kept, CIRCLES that aren't there. */
    private static Map<String, Long> all(Consumer<FasterToBeLater> how) {
        Map<String, Long> all = new TreeMap<>();
        FasterToBeLater x = Check.made(how);
        for (int what : TOLD) {
            all.put("status " + what, (long) x.status(what));
        }
        world(all, "", x);
        for (int s = 0; s < 8; s++) {
            all.put("holds " + s, (long) x.holds(s));
            for (int i = 0; i < 4; i++) {
                all.put("element " + s + " " + i, x.element(s, i));
            }
        }
        all.put("tape", (long) Check.made(how).world());
        if (x.status(1) == 0) {
            x.circles(6);
            circles(all, "wide ", x);
        }
        FasterToBeLater y = Check.made(how);
        all.put("back", (long) y.back());
        for (int what : KEPT) {
            all.put("kept status " + what, (long) y.status(what));
        }
        world(all, "kept ", y);
        if (y.status(1) == 0) {
            y.circles(6);
            circles(all, "kept wide ", y);
        }
        return all;
    }

    private static void world(Map<String, Long> all, String of, FasterToBeLater x) {
        for (int i = 0; i < x.status(1); i++) {
            for (int what = 0; what < 5; what++) {
                all.put(of + "ship " + i + " " + what, (long) x.shipOf(i, what));
            }
        }
        circles(all, of, x);
    }

    private static void circles(Map<String, Long> all, String of, FasterToBeLater x) {
        for (int c = 0; c < x.status(0); c++) {
            for (int what = 0; what < 3; what++) {
                all.put(of + "circle " + c + " " + what, (long) x.circleOf(c, what));
            }
        }
    }

    /** Each change as "what can be asked = its new answer"; what can't be asked any more is "gone". */
    private static void changes(String what, ToLongFunction<FasterToBeLater> call, long answer, String... due) {
        Consumer<FasterToBeLater> setting = set;
        check.due(what, call.applyAsLong(Check.made(setting)), answer);
        Map<String, Long> ahead = all(setting);
        Map<String, Long> behind = all(setting.andThen(x -> call.applyAsLong(x)));
        Map<String, String> found = new TreeMap<>();
        for (Map.Entry<String, Long> e : ahead.entrySet()) {
            Long now = behind.get(e.getKey());
            if (!e.getValue().equals(now)) {
                found.put(e.getKey(), now == null ? "gone" : String.valueOf(now));
            }
        }
        for (Map.Entry<String, Long> e : behind.entrySet()) {
            if (!ahead.containsKey(e.getKey())) {
                found.put(e.getKey(), String.valueOf(e.getValue()));
            }
        }
        Map<String, String> wanted = new TreeMap<>();
        for (String change : due) {
            int sign = change.indexOf(" = ");
            wanted.put(change.substring(0, sign), change.substring(sign + 3));
        }
        check.same(what + " changes", found.toString(), wanted.toString());
    }

    private static void shelves() {
        check.of(2, "SHELF s holds a new ROW: 1.");
        changes("row in an empty SHELF", x -> x.row(4, 3, 2), 1, "holds 4 = 3", "status 8 = 6");
        changes("row for a SHIP", x -> x.row(2, 4, 2), 1, "holds 2 = 4");
        changes("row for a ROW", x -> x.row(0, 0, 3), 1, "element 0 0 = 0", "element 0 1 = 0", "element 0 2 = 0");
        check.of(3, "Element i of the ROW in SHELF s becomes v: 1.");
        changes("set", x -> x.set(0, 1, -1), 1, "element 0 1 = -1");
        check.of(4, "n elements of the ROW in SHELF p from place i on come to places j on of that in q (as they were): n.");
        changes("copy", x -> x.copy(0, 1, 0, 1, 2), 2, "element 1 1 = 5", "element 1 2 = 6");
        changes("copy of none", x -> x.copy(0, 1, 3, 3, 0), 0);
        check.of(7, "SHELF s holds a SHIP, or NOTHING (ship NONE): 1.");
        changes("show for a ROW", x -> x.show(0, 0), 1, "holds 0 = 10", "element 0 0 = 0", "element 0 1 = 0", "element 0 2 = 0");
        changes("show for a SHIP", x -> x.show(2, 3), 1, "holds 2 = 13");
        changes("show NOTHING", x -> x.show(2, -1), 1, "holds 2 = -1", "status 8 = 4");
    }

    private static void circlesAndShips() {
        check.of(10, "TIME of a CIRCLE becomes v: what it was.");
        changes("time", x -> x.time(2, 19), 8, "circle 2 0 = 19");
        check.of(11, "COST between a CIRCLE and the next above becomes v: what it was.");
        changes("cost", x -> x.cost(1, 9), 6, "circle 1 1 = 9");
        check.of(12, "A SHIP: its number.");
        changes("ship", x -> x.ship(4, 2, 7, 8), 4, "ship 4 0 = 4", "ship 4 1 = 2", "ship 4 2 = 7", "ship 4 3 = 8",
            "ship 4 4 = 0", "circle 2 2 = 16", "status 1 = 5", "status 4 = 70");
        check.of(13, "DROPS of a SHIP become v: what they were.");
        changes("fill", x -> x.fill(1, 0), 50, "ship 1 3 = 0", "status 4 = 12");
    }

    private static void tape() {
        check.of(14, "THE TAPE gets one byte (0 to 255) behind it: its size.");
        changes("feed", x -> x.feed(' '), 12, "status 6 = 12", "tape = -32");
        check.of(15, "THE TAPE is empty: its size ahead.");
        changes("wipe", x -> x.wipe(), 11, "status 6 = 0", "tape = -20");
        check.of(16, "THE TAPE is a WORLD: how many STATEMENTS; -20 less the FAULT (that is refused, too: BAD).");
        changes("world with a FAULT", x -> x.world(), -31, "status 6 = 0", "tape = -20", "status 12 = 2");
    }

    private static void reads(String text, int answer, String... due) {
        Consumer<FasterToBeLater> before = set;
        String[] all = new String[due.length + 2];
        System.arraycopy(due, 0, all, 2, due.length);
        all[0] = "status 6 = 0";
        all[1] = "tape = -20";
        set = before.andThen(x -> x.wipe()).andThen(x -> Check.letters(x, text));
        changes("'" + text + "'", x -> x.world(), answer, all);
        set = before;
    }

    private static void worldRead() {
        check.of(Check.TERMS, "All comes to what there is, or nothing.");
        reads("cost 1 2", 1, "circle 1 1 = 2");
        reads("time 2 2", 1, "circle 2 0 = 2");
        reads("ship 4 2 7 drops 8", 1, "ship 4 0 = 4", "ship 4 1 = 2", "ship 4 2 = 7", "ship 4 3 = 8", "ship 4 4 = 0",
            "circle 2 2 = 16", "status 1 = 5", "status 4 = 70");
        // SHIP 0 drifts from PLACE 1 of 4, the others from PLACE 2 of 6; the BOLT hits both that are with it
        reads("step 1", 1, "ship 0 2 = 2", "ship 1 2 = 3", "ship 2 2 = 3", "ship 3 2 = 3", "status 2 = 4", "status 3 = 8");
        reads("cost 1 2;step 9;time 0 9", -41, "status 12 = 2");
    }

    private static void inTruth() {
        check.of(37, "n STEPS (1 to 60) in truth: HITS of these.");
        changes("step", x -> x.step(2), 4, "ship 0 2 = 3", "ship 1 2 = 4", "ship 2 2 = 4", "ship 3 2 = 4", "status 2 = 5",
            "status 3 = 10");
        check.of(38, "A CHANGE (1, 2) in truth: what it cost.");
        changes("change", x -> x.change(0, 1), 1, "ship 0 1 = 1", "ship 0 2 = 4", "ship 0 3 = 8", "ship 0 4 = 2",
            "circle 0 2 = 0", "circle 1 2 = 15", "status 4 = 61", "status 5 = 1");
        check.of(39, "n drops (1 to 99) go from a TANKER to another it MEETS: how many that one has.");
        changes("hand", x -> x.hand(1, 3, 5), 8, "ship 1 3 = 45", "ship 3 3 = 8");
        check.of(40, "A SHIP throws a PARCEL or BOLT it MEETS (1 up, 2 down): how many STEPS that is BUSY.");
        // from PLACE 2 of 6 to TIME 8: 2 times 8 by 6 is 2, and 4
        changes("hurl", x -> x.hurl(1, 2, 1), 3, "ship 1 3 = 49", "ship 2 1 = 2", "ship 2 2 = 6", "ship 2 4 = 3",
            "circle 1 2 = 10", "circle 2 2 = 4", "status 4 = 61", "status 5 = 4");
        check.of(41, "BOLTS by draws, n (1 to 6) until there is no room: how many.");
        // SEED 5 becomes 1222621274, upper bits 18655, then -1593238901, upper bits 41225
        changes("bolts", x -> x.bolts(1), 1, "ship 4 0 = 3", "ship 4 1 = 1", "ship 4 2 = 5", "ship 4 3 = 0", "ship 4 4 = 0",
            "circle 1 2 = 30", "status 1 = 5", "status 7 = -1593238901");
        check.of(42, "SEED becomes v: the one ahead.");
        changes("seed", x -> x.seed(-3), 5, "status 7 = -3");
    }

    private static void keeping() {
        check.of(43, "All is kept, but THE TAPE, SHELVES and REFUSALS: 1.");
        changes("image", x -> x.image(), 1, "kept status 1 = 4", "kept status 2 = 3", "kept status 3 = 6",
            "kept status 4 = 62", "kept status 7 = 5", "kept ship 0 2 = 1", "kept ship 1 2 = 2", "kept ship 2 0 = 2",
            "kept ship 2 1 = 1", "kept ship 2 2 = 2", "kept ship 2 3 = 0", "kept ship 2 4 = 0", "kept ship 3 0 = 3",
            "kept ship 3 1 = 1", "kept ship 3 2 = 2", "kept ship 3 3 = 3", "kept ship 3 4 = 0", "kept circle 1 1 = 6",
            "kept circle 1 2 = 14");
        check.of(44, "All is again as it was kept (SHELVES with SHIPS hold those of the same numbers, or NOTHING): 1.");
        changes("back", x -> x.back(), 1, "status 1 = 2", "status 2 = 0", "status 3 = 0", "status 4 = 59", "status 7 = 77",
            "status 8 = 4", "ship 0 2 = 2", "ship 1 2 = 5", "ship 2 0 = gone", "ship 2 1 = gone", "ship 2 2 = gone",
            "ship 2 3 = gone", "ship 2 4 = gone", "ship 3 0 = gone", "ship 3 1 = gone", "ship 3 2 = gone", "ship 3 3 = gone",
            "ship 3 4 = gone", "circle 1 1 = 1", "circle 1 2 = 2", "holds 3 = -1");
    }

    private static void keepingNoShips() {
        check.of(43, "All is kept, but THE TAPE, SHELVES and REFUSALS: 1.");
        changes("image", x -> x.image(), 1, "kept status 0 = 3", "kept status 2 = 2", "kept status 7 = 9", "kept circle 2 1 = 0",
            "kept circle 3 0 = gone", "kept circle 3 1 = gone", "kept circle 3 2 = gone", "kept circle 4 0 = gone",
            "kept circle 4 1 = gone", "kept circle 4 2 = gone", "kept wide circle 4 0 = 7");
        check.of(44, "All is again as it was kept (SHELVES with SHIPS hold those of the same numbers, or NOTHING): 1.");
        changes("back", x -> x.back(), 1, "status 0 = 5", "status 2 = 0", "status 7 = 1", "circle 2 1 = 6", "circle 3 0 = 18",
            "circle 3 1 = 7", "circle 3 2 = 0", "circle 4 0 = 19", "circle 4 1 = 0", "circle 4 2 = 0", "wide circle 4 0 = 19");
    }

    private static void withNoShips() {
        check.of(2, "SHELF s holds a new ROW: 1.");
        changes("row", x -> x.row(0, 3, 1), 1, "holds 0 = 3", "element 0 0 = 0", "element 0 1 = 0");
        check.of(3, "Element i of the ROW in SHELF s becomes v: 1.");
        changes("set", x -> x.set(3, 1, 2), 1, "element 3 1 = 1");
        check.of(4, "n elements of the ROW in SHELF p from place i on come to places j on of that in q (as they were): n.");
        changes("copy", x -> x.copy(7, 0, 0, 1, 1), 1, "element 0 1 = 4");
        check.of(7, "SHELF s holds a SHIP, or NOTHING (ship NONE): 1.");
        changes("show", x -> x.show(3, -1), 1, "holds 3 = -1", "element 3 0 = 0", "status 8 = 2");
        tape();
        check.of(Check.TERMS, "(A CIRCLE that isn't there for a time keeps both.)");
        reads("circles 2", 1, "status 0 = 2", "circle 1 1 = 0", "circle 2 0 = gone", "circle 2 1 = gone", "circle 2 2 = gone");
        reads("circles 4", 1, "status 0 = 4", "circle 2 1 = 6", "circle 3 0 = 18", "circle 3 1 = 0", "circle 3 2 = 0");
        reads("time 2 2;cost 0 1", 2, "circle 2 0 = 2", "wide circle 2 0 = 2", "circle 0 1 = 1", "wide circle 0 1 = 1");
        reads("step 60", 1, "status 2 = 62");
        reads("time 2 2;cost 0 1;step 60;circles 5;ship", -60, "status 12 = 2");
        check.of(9, "CIRCLES become n: what they were.");
        changes("fewer", x -> x.circles(2), 3, "status 0 = 2", "circle 1 1 = 0", "circle 2 0 = gone", "circle 2 1 = gone",
            "circle 2 2 = gone");
        changes("more", x -> x.circles(4), 3, "status 0 = 4", "circle 2 1 = 6", "circle 3 0 = 18", "circle 3 1 = 0",
            "circle 3 2 = 0");
        changes("as many", x -> x.circles(3), 3);
        check.of(10, "TIME of a CIRCLE becomes v: what it was.");
        changes("time", x -> x.time(2, 2), 17, "circle 2 0 = 2", "wide circle 2 0 = 2");
        changes("the same time", x -> x.time(2, 17), 17);
        check.of(11, "COST between a CIRCLE and the next above becomes v: what it was.");
        changes("cost", x -> x.cost(0, 9), 4, "circle 0 1 = 9", "wide circle 0 1 = 9");
        check.of(37, "n STEPS (1 to 60) in truth: HITS of these.");
        changes("step", x -> x.step(60), 0, "status 2 = 62");
        check.of(42, "SEED becomes v: the one ahead.");
        changes("the same SEED", x -> x.seed(9), 9);
        changes("another SEED", x -> x.seed(-9), 9, "status 7 = -9");
        check.of(Check.TERMS, "WHAT COMES OF IT (in thought; nothing is changed; STEPS 0 to 60)");
        changes("element", x -> x.element(0, 1), 9);
        changes("holds", x -> x.holds(3), 4);
        changes("circleOf", x -> x.circleOf(2, 0), 17);
        changes("again", x -> x.again(), Check.NONE);
        changes("fullest", x -> x.fullest(), 0);
        changes("clash", x -> x.clash(60), Check.NONE);
        changes("status", x -> x.status(8), 3);
    }

    /** SHIP 0 up comes to PLACE 4 of CIRCLE 1 behind 2 STEPS, where all the others are then. */
    private static void thoughts() {
        check.of(Check.TERMS, "WHAT COMES OF IT (in thought; nothing is changed; STEPS 0 to 60)");
        changes("element", x -> x.element(7, 0), 1L << 40);
        changes("holds", x -> x.holds(2), 11);
        changes("says", x -> x.says(2, 5), 3 * 99 - 12);
        changes("shipOf", x -> x.shipOf(0, 2), 1);
        changes("circleOf", x -> x.circleOf(2, 0), 8);
        changes("can", x -> x.can(0, 1), 1);
        changes("can't", x -> x.can(0, 2), Check.NONE);
        changes("behind", x -> x.behind(0, 400, 1), 1);
        changes("meets", x -> x.meets(1, 2), 1);
        changes("judge", x -> x.judge(1, 3, 0), Check.NONE);
        changes("flown", x -> x.flown(1, 3, 0, 2), 7);
        changes("met", x -> x.met(1, 3, 0, 1), 2);
        changes("cheapest", x -> x.cheapest(0, 1, 60), 1);
        changes("soonest", x -> x.soonest(0, 1), 2);
        changes("way", x -> x.way(0, 1, 0), 1);
        changes("round", x -> x.round(0, 14, 60), 1);
        changes("home", x -> x.home(1, 1), 3);
        changes("again", x -> x.again(), 12);
        changes("pass", x -> x.pass(0, 1), 1);
        changes("fullest", x -> x.fullest(), 1);
        changes("clash", x -> x.clash(60), 0);
        changes("burnt", x -> x.burnt(1, 1, 0), 0);
        changes("tag", x -> x.tag(0, 1, 2), 0);
        changes("status", x -> x.status(17), Check.NONE);
        Consumer<FasterToBeLater> before = set;
        set = before.andThen(x -> x.ship(4, 1, 0, 0));
        changes("queue", x -> x.queue(4, 3), 14);
        set = before;
    }
}
