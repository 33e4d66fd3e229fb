import java.util.function.Consumer;

/** The calls of all chapters once more, of SHIPS of each KIND with others of each KIND, on a CIRCLE and on their way. */
public final class KindsTest {
    private static final Check check = new Check("KindsTest");
    private static final int KINDS = 6;
    private static final int PARCEL = 2;
    private static final int BOLT = 3;
    private static final int STATION = 4;
    private static final int TANKER = 5;

    private static int kind;
    private static int other;
    private static Consumer<FasterToBeLater> scene;

    public static void main(String[] args) {
        for (kind = 0; kind < KINDS; kind++) {
            for (other = 0; other < KINDS; other++) {
                idle();
                if (other != STATION) {
                    busy();
                }
            }
        }
        check.end();
    }

    private static boolean steers(int kind) {
        return kind == 0 || kind == 1 || kind == TANKER;
    }

    /** Of 3 drops, and of 5. */
    private static int price(int kind, int cost) {
        return kind == 0 ? cost : cost == 3 ? 2 : 3;
    }

    private static void only(String what, java.util.function.ToLongFunction<FasterToBeLater> call, long due) {
        check.only(what + ", KINDS " + kind + " and " + other, scene, call, due);
    }

    private static void stuck(String what, java.util.function.ToLongFunction<FasterToBeLater> call) {
        check.refused(what + ", KINDS " + kind + " and " + other, scene, call, Check.STUCK);
    }

    /**
     * The one is on CIRCLE 0 (TIME 4) at PLACE 1; up, it is BUSY for 2 STEPS and comes to PLACE 4 of CIRCLE 1 (TIME 6):
     * 1 times 6 by 4 is 1, and 3. The other, at PLACE 2 there, has drifted to 4 by then.
     */
    private static Consumer<FasterToBeLater> twoCircles(int drops) {
        int one = kind;
        int two = other;
        return x -> {
            x.cost(0, 3);
            x.cost(1, 5);
            x.ship(one, 0, 1, 20);
            x.ship(two, 1, 2, drops);
            for (int sort = 0; sort < 5; sort++) {
                Check.put(x, sort, sort, 1, 0);
            }
            Check.put(x, 5, 3, 0, 0);
            Check.put(x, 6, 2, 2, 1, 4);
            Check.put(x, 7, 1, 2, 0, 3);
        };
    }

    private static void idle() {
        scene = twoCircles(20);
        idleMoves();
        idlePlans();
        idleDrift();
        idleInTruth();
    }

    private static void idleMoves() {
        boolean can = steers(kind);
        int cost = price(kind, 3);
        check.of(19, "Whether a SHIP can make a CHANGE (1 up, 2 down) now: what it costs; NONE: it can't.");
        only("up", x -> x.can(0, 1), can ? cost : Check.NONE);
        only("none below", x -> x.can(0, 2), Check.NONE);
        only("the other up", x -> x.can(1, 1), steers(other) ? price(other, 5) : Check.NONE);
        check.of(20, "Where a SHIP that drifts is behind t STEPS (0 to 400): CIRCLE (what 0), PLACE (1), BUSY (2).");
        only("behind 400 STEPS", x -> x.behind(0, 400, 1), 1);
        only("the other behind 399", x -> x.behind(1, 399, 1), 5);
        check.of(21, "Whether two MEET now: 1, 0.");
        only("meets", x -> x.meets(0, 1), 0);
        check.of(22, "A FLIGHT of the first n elements (0 to 40) of the ROW in SHELF s, of a SHIP: the first code that can't be; NONE.");
        for (int sort = 0; sort < 5; sort++) {
            int s = sort;
            only("judge, SORT " + sort, x -> x.judge(s, 2, 0), can ? Check.NONE : 0);
        }
        only("it drifts", x -> x.judge(5, 2, 0), Check.NONE);
        check.of(23, "Behind it: CIRCLE (what 0), PLACE (1), DROPS (2), BUSY (3) of the SHIP.");
        int[] due = {1, 4, 20 - cost, 0};
        int[] drifts = {0, 3, 20, 0};
        for (int w = 0; w < 4; w++) {
            int what = w;
            only("it drifts, what " + w, x -> x.flown(5, 2, 0, what), drifts[w]);
            if (can) {
                only("flown, what " + w, x -> x.flown(0, 2, 0, what), due[w]);
            } else {
                stuck("flown, what " + w, x -> x.flown(0, 2, 0, what));
            }
        }
        check.of(24, "The first STEP (0: ahead of all) of it at which the SHIP MEETS another; NONE.");
        only("it drifts", x -> x.met(5, 2, 0, 1), Check.NONE);
        for (int sort = 0; sort < 5; sort++) {
            int s = sort;
            if (can) {
                only("met, SORT " + sort, x -> x.met(s, 2, 0, 1), 2);
            } else {
                stuck("met, SORT " + sort, x -> x.met(s, 2, 0, 1));
            }
        }
    }

    private static void idlePlans() {
        boolean can = steers(kind);
        int cost = can ? price(kind, 3) : Check.NONE;
        check.of(25, "CHEAPEST; NONE.");
        only("by 60", x -> x.cheapest(0, 1, 60), cost);
        only("by 2", x -> x.cheapest(0, 1, 2), cost);
        only("by 1", x -> x.cheapest(0, 1, 1), Check.NONE);
        // the other goes down ahead of STEP 9, from PLACE 4: 4 times 4 by 6 is 2, and 2 is 0, at STEP 11
        only("the other, by 60", x -> x.cheapest(1, 0, 60), steers(other) ? price(other, 3) : Check.NONE);
        check.of(26, "SOONEST; NONE.");
        only("soonest", x -> x.soonest(0, 1), can ? 2 : Check.NONE);
        check.of(27, "The i-th code of THE WAY.");
        if (can) {
            only("its first code", x -> x.way(0, 1, 0), 1);
            only("its last code", x -> x.way(0, 1, 1), 0);
        } else {
            stuck("no WAY", x -> x.way(0, 1, 0));
        }
        stuck("behind its last code", x -> x.way(0, 1, 2));
        check.of(28, "ROUND; NONE.");
        only("to one", x -> x.round(0, 2, 60), cost);
        only("to none", x -> x.round(0, 0, 60), 0);
        check.of(29, "HOME: drops (what 0), STEPS (1).");
        only("it is there", x -> x.home(0, 0), 0);
        only("it is there", x -> x.home(0, 1), 0);
        if (steers(other)) {
            only("drops", x -> x.home(1, 0), price(other, 3));
            only("STEPS", x -> x.home(1, 1), 3);
        } else {
            stuck("it can't", x -> x.home(1, 0));
            stuck("it can't", x -> x.home(1, 1));
        }
    }

    private static void idleDrift() {
        boolean can = steers(kind);
        check.of(30, "AGAIN; NONE.");
        only("again", x -> x.again(), 12);
        check.of(31, "PASS; NONE.");
        // behind 1 STEP they are at PLACES 2 of 4 and 3 of 6
        only("pass", x -> x.pass(0, 1), 1);
        only("the other way", x -> x.pass(1, 0), 1);
        check.of(34, "CLASH; NONE.");
        only("on two CIRCLES", x -> x.clash(60), Check.NONE);
        check.of(35, "SIGHTINGS of the first n threes (1 to 10) of the ROW in SHELF s; NONE.");
        only("on the CIRCLE above", x -> x.burnt(6, 1, 0), can ? price(kind, 3) : Check.NONE);
        only("where it drifts to", x -> x.burnt(7, 1, 0), 0);
        check.of(36, "TAG: 1, 0.");
        only("by 1", x -> x.tag(0, 1, 1), 0);
        only("the other goes away, if it can", x -> x.tag(0, 1, 2), can && !steers(other) ? 1 : 0);
        scene = twoCircles(0);
        only("the other has no drops", x -> x.tag(0, 1, 2), can ? 1 : 0);
        scene = twoCircles(20);
    }

    private static void idleInTruth() {
        check.of(13, "DROPS of a SHIP become v: what they were.");
        FasterToBeLater x = Check.made(scene);
        check.due("fill", x.fill(0, 99), 20);
        check.due("fill", x.fill(0, 0), 99);
        check.due("DROPS", x.shipOf(0, 3), 0);
        check.of(38, "A CHANGE (1, 2) in truth: what it cost.");
        x = Check.made(scene);
        if (!steers(kind)) {
            stuck("change", y -> y.change(0, 1));
            return;
        }
        check.due("change", x.change(0, 1), price(kind, 3));
        check.of(37, "n STEPS (1 to 60) in truth: HITS of these.");
        check.due("before they MEET", x.step(1), 0);
        check.due("they MEET", x.step(1), other == BOLT ? 1 : 0);
        check.due("and go on as one", x.step(60), other == BOLT ? 60 : 0);
        check.due("meets", x.meets(0, 1), 1);
        check.of(39, "n drops (1 to 99) go from a TANKER to another it MEETS: how many that one has.");
        if (kind == TANKER) {
            check.due("hand", x.hand(0, 1, 18), 38);
            check.due("it has none", x.shipOf(0, 3), 0);
            x.fill(0, 9);
        }
        check.of(40, "A SHIP throws a PARCEL or BOLT it MEETS (1 up, 2 down): how many STEPS that is BUSY.");
        boolean flies = other == PARCEL || other == BOLT;
        check.due("hurl", x.hurl(0, 1, 2), flies ? 3 : Check.STUCK);
        check.due("where it comes to", x.shipOf(1, 1), flies ? 0 : 1);
    }

    /**
     * The other is on its way to CIRCLE 1, PLACE 4, BUSY for 2 STEPS still, by itself or thrown by SHIP 2; the one, at
     * PLACE 2 there, has drifted to 4 by then.
     */
    private static Consumer<FasterToBeLater> underWay(int drops) {
        int one = kind;
        int two = other;
        return x -> {
            x.cost(0, 3);
            x.cost(1, 5);
            x.ship(one, 1, 2, drops);
            x.ship(two, 0, 1, 20);
            x.ship(0, 0, 1, 1);
            if (steers(two)) {
                x.change(1, 1);
            } else {
                x.hurl(2, 1, 1);
            }
            x.show(0, 1);
            Check.put(x, 1, 0, 0, 0, 1);
            Check.put(x, 2, 1, 2, 1, 4, 3, 1, 5);
            Check.put(x, 3, 3, 1, 1, 4);
        };
    }

    private static void busy() {
        scene = underWay(20);
        busyMoves();
        busyPlans();
        busyDrift();
        busyInTruth();
    }

    private static void busyMoves() {
        check.of(8, "BOLT how many SHIPS there are on its CIRCLE besides (not BUSY)");
        if (other == BOLT) {
            only("on the CIRCLE that it comes to", x -> x.says(0, 3), 1);
        }
        check.of(8, "PARCEL how many it MEETS now");
        if (other == PARCEL || other == BOLT) {
            only("a BUSY one", x -> x.says(0, 2), 0);
        }
        check.of(18, "Of a CIRCLE: TIME (0), COST to the next above (1; 0: none), SHIPS that have it (2, bits).");
        only("BUSY ones, too", x -> x.circleOf(1, 2), 3);
        only("not where it comes from", x -> x.circleOf(0, 2), 4);
        check.of(19, "Whether a SHIP can make a CHANGE (1 up, 2 down) now: what it costs; NONE: it can't.");
        only("up", x -> x.can(1, 1), Check.NONE);
        only("down", x -> x.can(1, 2), Check.NONE);
        check.of(20, "Where a SHIP that drifts is behind t STEPS (0 to 400): CIRCLE (what 0), PLACE (1), BUSY (2).");
        int[][] due = {{1, 4, 2}, {1, 4, 1}, {1, 4, 0}, {1, 5, 0}, {1, 0, 0}};
        for (int step = 0; step < due.length; step++) {
            for (int w = 0; w < 3; w++) {
                int t = step;
                int what = w;
                only("behind " + t + ", what " + w, x -> x.behind(1, t, what), due[step][w]);
            }
        }
        check.of(21, "Whether two MEET now: 1, 0.");
        only("meets", x -> x.meets(0, 1), 0);
        check.of(22, "A FLIGHT of the first n elements (0 to 40) of the ROW in SHELF s, of a SHIP: the first code that can't be; NONE.");
        only("while it is BUSY", x -> x.judge(1, 2, 1), Check.NONE);
        only("up when it has come", x -> x.judge(1, 3, 1), steers(other) ? Check.NONE : 2);
        only("up while it is BUSY", x -> x.judge(3, 1, 1), 0);
        check.of(24, "The first STEP (0: ahead of all) of it at which the SHIP MEETS another; NONE.");
        only("it comes", x -> x.met(1, 2, 1, 0), 2);
        only("it is waited for", x -> x.met(1, 2, 0, 1), 2);
        only("not yet", x -> x.met(1, 1, 0, 1), Check.NONE);
    }

    private static void busyPlans() {
        for (int i = 0; i < 2; i++) {
            int a = i;
            int b = 1 - i;
            check.of(25, "CHEAPEST; NONE.");
            only("by 2", x -> x.cheapest(a, b, 2), 0);
            only("by 1", x -> x.cheapest(a, b, 1), Check.NONE);
            check.of(26, "SOONEST; NONE.");
            only("soonest", x -> x.soonest(a, b), 2);
            check.of(27, "The i-th code of THE WAY.");
            only("its first code", x -> x.way(a, b, 0), 0);
            only("its last code", x -> x.way(a, b, 1), 0);
            stuck("behind its last code", x -> x.way(a, b, 2));
            check.of(28, "ROUND; NONE.");
            only("by 2", x -> x.round(a, 1 << b, 2), 0);
            only("by 1", x -> x.round(a, 1 << b, 1), Check.NONE);
        }
        check.of(29, "HOME: drops (what 0), STEPS (1).");
        if (steers(other)) {
            only("drops", x -> x.home(1, 0), price(other, 3));
            only("behind what it is BUSY", x -> x.home(1, 1), 5);
        } else {
            stuck("it can't", x -> x.home(1, 0));
            stuck("it can't", x -> x.home(1, 1));
        }
    }

    private static void busyDrift() {
        check.of(30, "AGAIN; NONE.");
        only("again", x -> x.again(), Check.NONE);
        check.of(31, "PASS; NONE.");
        only("pass", x -> x.pass(0, 1), 2);
        check.of(33, "The CIRCLE that most SHIPS have (BUSY ones, too), of several the first.");
        only("fullest", x -> x.fullest(), 1);
        check.of(34, "CLASH; NONE.");
        only("it comes", x -> x.clash(2), 2);
        only("not yet", x -> x.clash(1), Check.NONE);
        check.of(35, "SIGHTINGS of the first n threes (1 to 10) of the ROW in SHELF s; NONE.");
        only("when it has come, and one on", x -> x.burnt(2, 2, 1), 0);
        only("while it is BUSY", x -> x.burnt(3, 1, 1), Check.NONE);
        check.of(36, "TAG: 1, 0.");
        only("by 1", x -> x.tag(0, 1, 1), 0);
        only("a BUSY one can't go away", x -> x.tag(0, 1, 2), 1);
        only("the other goes away, if it can", x -> x.tag(1, 0, 2), steers(kind) ? 0 : 1);
        scene = underWay(0);
        only("the other has no drops", x -> x.tag(1, 0, 2), 1);
        scene = underWay(20);
        check.of(32, "QUEUE (g 0 to 20; bits).");
        if (kind == STATION) {
            only("BUSY ones not", x -> x.queue(0, 20), 0);
        }
    }

    private static void busyInTruth() {
        check.of(38, "BAD; STUCK: it can't be.");
        stuck("BUSY", x -> x.change(1, 1));
        stuck("BUSY", x -> x.change(1, 2));
        check.of(39, "BAD: also one twice; STUCK: it is no TANKER, they don't MEET, it has fewer, that one would have more than 99.");
        stuck("to a BUSY one", x -> x.hand(0, 1, 1));
        stuck("from a BUSY one", x -> x.hand(1, 0, 1));
        check.of(40, "BAD: also one twice; STUCK: the other is neither, they don't MEET, no drop, no such CIRCLE, the SHIP is PARCEL or BOLT.");
        stuck("a BUSY one", x -> x.hurl(0, 1, 2));
        stuck("by a BUSY one", x -> x.hurl(1, 0, 2));
        check.of(37, "n STEPS (1 to 60) in truth: HITS of these.");
        FasterToBeLater x = Check.made(scene);
        boolean isHit = kind == BOLT || other == BOLT;
        check.due("BUSY still", x.step(1), 0);
        check.due("it has come", x.step(1), isHit ? 1 : 0);
        check.due("meets", x.meets(0, 1), 1);
        check.of(32, "QUEUE (g 0 to 20; bits).");
        check.due("queue", x.queue(0, 1), kind == STATION ? 2 : Check.STUCK);
    }
}
