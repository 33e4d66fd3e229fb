import java.util.Arrays;
import java.util.function.Consumer;
import java.util.function.ToLongFunction;

/** Promises 25 to 29: cheapest, soonest, way, round, home; and what the Terms say of them. */
public final class PlansTest {
    private static final Check check = new Check("PlansTest");
    private static final int MOST = Integer.MAX_VALUE;
    private static final int LEAST = Integer.MIN_VALUE;

    public static void main(String[] args) {
        inThought();
        oneChange();
        whateverItHas();
        withWhatItHas();
        lastStep();
        fewerOrSooner();
        longestChange();
        greatestSky();
        oneAfterAnother();
        meetsNow();
        busyOnes();
        firstOfSeveral();
        allFlights();
        round();
        roundOfThree();
        roundInAnyOrder();
        home();
        homeEdges();
        cheapestRefusals();
        soonestRefusals();
        wayRefusals();
        roundRefusals();
        homeRefusals();
        check.end();
    }

    private static void inThought() {
        check.of(Check.TERMS, "WHAT COMES OF IT (in thought; nothing is changed; STEPS 0 to 60)");
        Consumer<FasterToBeLater> set = x -> {
            Check.feed(x, "circles 3;cost 0 2;ship 0 0 1 drops 9;ship 5 1 2 drops 9;ship 4 1 5;ship 3 2 0;ship 2 2 0");
            Check.put(x, 0, 0, 2, 1, 0, 9, 1, 1);
            x.image();
            x.change(0, 1);
            x.feed(33);
        };
        ToLongFunction<FasterToBeLater> all = x -> {
            x.cheapest(0, 1, 60);
            x.soonest(0, 2);
            x.way(0, 2, 0);
            x.round(1, 28, 60);
            x.home(0, 0);
            x.again();
            x.pass(0, 1);
            x.queue(2, 20);
            x.fullest();
            x.clash(60);
            x.burnt(0, 2, 0);
            x.tag(1, 0, 5);
            x.behind(0, 400, 1);
            x.can(1, 1);
            return x.status(12) + x.status(15);
        };
        // SHIP 0 has a WAY to SHIP 2 of one code at least, so that nothing is refused
        check.only("all thoughts", set, all, 0);
        check.span("STEPS of cheapest", set, (x, t) -> x.cheapest(0, 1, t), 0, 60);
        check.span("STEPS of round", set, (x, t) -> x.round(0, 2, t), 0, 60);
        check.span("STEPS of clash", set, (x, t) -> x.clash(t), 0, 60);
    }

    /**
     * TIME 2 and 4, COST 3. A SHIP at PLACE 0 of CIRCLE 0 that goes up ahead of STEP k comes at STEP k and 1
     * to PLACE 2 (k even) or 0 (k odd); a STATION at PLACE p is then at p and k and 1 of 4.
     */
    private static Consumer<FasterToBeLater> two(int p, int drops) {
        return Check.text("circles 2;time 0 2;time 1 4;cost 0 3;ship 0 0 0 drops " + drops + ";ship 4 1 " + p);
    }

    private static void oneChange() {
        check.of(Check.TERMS, "CHEAPEST of a SHIP and another by t: the fewest drops by which it MEETS it at a STEP 0 to t");
        // p 1: k 0. p 3: k 2. p 0: k 3. p 2: k 1
        int[][] due = {{1, 1}, {3, 3}, {0, 4}, {2, 2}};
        for (int[] d : due) {
            int p = d[0];
            int first = d[1];
            check.only("soonest, p " + p, two(p, 3), x -> x.soonest(0, 1), first);
            check.only("cheapest in time, p " + p, two(p, 0), x -> x.cheapest(0, 1, first), 3);
            check.only("cheapest with time to spare, p " + p, two(p, 0), x -> x.cheapest(0, 1, first + 1), 3);
            check.only("cheapest too early, p " + p, two(p, 99), x -> x.cheapest(0, 1, first - 1), Check.NONE);
            for (int i = 0; i < first; i++) {
                int at = i;
                check.only("way, p " + p, two(p, 5), x -> x.way(0, 1, at), i == first - 1 ? 1 : 0);
            }
            check.refused("way behind its end, p " + p, two(p, 5), x -> x.way(0, 1, first), Check.STUCK);
            check.refused("no way, p " + p, two(p, 2), x -> x.way(0, 1, 0), Check.STUCK);
        }
    }

    private static void whateverItHas() {
        check.of(Check.TERMS, "(whatever it has; TUGS by their COST); NONE.");
        int[] half = {0, 1, 1, 2, 2, 3, 3, 4, 4, 5};
        for (int cost = 1; cost <= 9; cost++) {
            String text = "circles 2;time 0 2;time 1 4;cost 0 " + cost + ";ship 0 0 0;ship 4 1 1;ship 1 0 0;ship 5 0 0;ship 2 0 0;ship 4 0 0";
            check.only("a SHIP with no drops, COST " + cost, Check.text(text), x -> x.cheapest(0, 1, 1), cost);
            check.only("a TUG, COST " + cost, Check.text(text), x -> x.cheapest(2, 1, 1), half[cost]);
            check.only("a TANKER, COST " + cost, Check.text(text), x -> x.cheapest(3, 1, 1), half[cost]);
            check.only("a PARCEL", Check.text(text), x -> x.cheapest(4, 1, 60), Check.NONE);
            check.only("a STATION", Check.text(text), x -> x.cheapest(5, 1, 60), Check.NONE);
            check.only("SOONEST has to pay", Check.text(text), x -> x.soonest(2, 1), Check.NONE);
        }
        // all TIMES 2: each CHANGE takes one STEP and keeps the direction
        Consumer<FasterToBeLater> far = Check.text("circles 6;time 0 2;time 1 2;time 2 2;time 3 2;time 4 2;time 5 2;"
            + "cost 0 9;cost 1 9;cost 2 9;cost 3 9;cost 4 9;ship 0 0 0;ship 4 5 0;ship 4 5 1");
        check.only("five CIRCLES up", far, x -> x.cheapest(0, 1, 5), 45);
        check.only("not in 4 STEPS", far, x -> x.cheapest(0, 1, 4), Check.NONE);
        check.only("never in another direction", far, x -> x.cheapest(0, 2, 60), Check.NONE);
        // TIMES that are almost the same: each CHANGE puts it on by little, so that eleven and thirteen are needed
        Consumer<FasterToBeLater> slow = Check.text("circles 2;time 0 11;time 1 10;cost 0 9;ship 0 1 0;ship 4 0 6");
        check.only("as much as a SHIP can have", slow, x -> x.cheapest(0, 1, 60), 99);
        check.only("with all it can have", slow.andThen(x -> x.fill(0, 99)), x -> x.soonest(0, 1), 59);
        check.only("with one less", slow.andThen(x -> x.fill(0, 98)), x -> x.soonest(0, 1), Check.NONE);
        Consumer<FasterToBeLater> more = Check.text("circles 2;time 0 8;time 1 9;cost 0 9;ship 0 0 0;ship 4 1 7;ship 4 1 3");
        check.only("more than a SHIP can have", more, x -> x.round(0, 6, 60), 117);
        check.only("just so soon", more, x -> x.round(0, 6, 59), 117);
        check.only("too early", more, x -> x.round(0, 6, 58), Check.NONE);
    }

    private static void withWhatItHas() {
        check.of(Check.TERMS, "SOONEST: the first STEP 0 to 60 at which it can MEET it with what it has; NONE.");
        for (int p = 0; p < 4; p++) {
            check.only("one drop too few", two(p, 2), x -> x.soonest(0, 1), Check.NONE);
            check.only("no drops", two(p, 0), x -> x.soonest(0, 1), Check.NONE);
        }
        check.only("just enough", two(1, 3), x -> x.soonest(0, 1), 1);
        Consumer<FasterToBeLater> tug = Check.text("circles 2;time 0 2;time 1 4;cost 0 3;ship 1 0 0 drops 2;ship 4 1 1;ship 1 0 0 drops 1");
        check.only("just enough for a TUG", tug, x -> x.soonest(0, 1), 1);
        check.only("one too few for a TUG", tug, x -> x.soonest(2, 1), Check.NONE);
    }

    private static void lastStep() {
        // ahead of STEP 51 it is at PLACE 1 of 18, and 9 STEPS later at 0 and 7 of 15, where the STATION is then
        Consumer<FasterToBeLater> set = Check.text("circles 2;time 0 18;time 1 15;ship 0 0 4 drops 1;ship 4 1 7");
        check.only("soonest at 60", set, x -> x.soonest(0, 1), 60);
        check.only("cheapest by 60", set, x -> x.cheapest(0, 1, 60), 1);
        check.only("cheapest by 59", set, x -> x.cheapest(0, 1, 59), Check.NONE);
        check.only("round by 60", set, x -> x.round(0, 2, 60), 1);
        check.only("round by 59", set, x -> x.round(0, 2, 59), Check.NONE);
        FasterToBeLater x = Check.made(set);
        for (int i = 0; i < 60; i++) {
            check.due("way of 60, " + i, x.way(0, 1, i), i == 51 ? 1 : 0);
        }
        check.due("way of 60, 60", x.way(0, 1, 60), Check.STUCK);
        Consumer<FasterToBeLater> late = Check.text("circles 2;time 0 18;time 1 15;ship 0 0 3 drops 1;ship 4 1 6");
        check.only("soonest at 61 is none", late, y -> y.soonest(0, 1), Check.NONE);
        check.refused("and no way", late, y -> y.way(0, 1, 0), Check.STUCK);
        check.only("a STEP later it is 60", late.andThen(y -> y.step(1)), y -> y.soonest(0, 1), 60);
    }

    private static void fewerOrSooner() {
        // one CHANGE leads there at STEP 60, three do by 59: what it has decides, and by 60 the fewest do
        String text = "circles 2;time 0 9;time 1 8;ship 0 0 8 drops %d;ship 4 1 0";
        Consumer<FasterToBeLater> poor = Check.text(String.format(text, 1));
        Consumer<FasterToBeLater> rich = Check.text(String.format(text, 3));
        check.only("cheapest by 60", rich, x -> x.cheapest(0, 1, 60), 1);
        check.only("cheapest by 59", poor, x -> x.cheapest(0, 1, 59), 3);
        check.only("soonest of a poor one", poor, x -> x.soonest(0, 1), 60);
        FasterToBeLater x = Check.made(rich);
        int first = x.soonest(0, 1);
        check.due("soonest of a rich one is sooner", first < 60 ? 1 : 0, 1);
        flyInTruth(x, first);
    }

    /** Follows THE WAY of SHIP 0 to SHIP 1 with CHANGES and STEPS in truth. */
    private static void flyInTruth(FasterToBeLater x, int first) {
        int[] codes = new int[first];
        for (int i = 0; i < first; i++) {
            codes[i] = x.way(0, 1, i);
        }
        for (int i = 0; i < first; i++) {
            check.due("they don't meet at " + i, x.meets(0, 1), 0);
            if (codes[i] != 0) {
                check.due("the change ahead of step " + i, x.change(0, codes[i]), 1);
            }
            x.step(1);
        }
        check.due("they meet at " + first, x.meets(0, 1), 1);
    }

    private static void longestChange() {
        // TIMES 20: each CHANGE takes ten STEPS and keeps the direction
        Consumer<FasterToBeLater> set = Check.text("circles 3;time 0 20;time 1 20;time 2 20;cost 0 2;cost 1 3;ship 0 0 0 drops 2;ship 4 1 0;ship 0 2 0 drops 3;ship 4 0 0");
        int[][] pairs = {{0, 1, 2}, {2, 1, 3}};
        for (int[] pair : pairs) {
            int ship = pair[0];
            int other = pair[1];
            check.only("soonest", set, x -> x.soonest(ship, other), 10);
            check.only("cheapest by 10", set, x -> x.cheapest(ship, other, 10), pair[2]);
            check.only("cheapest by 9", set, x -> x.cheapest(ship, other, 9), Check.NONE);
            check.only("round by 10", set, x -> x.round(ship, 1 << other, 10), pair[2]);
            check.only("round by 9", set, x -> x.round(ship, 1 << other, 9), Check.NONE);
            for (int i = 0; i < 10; i++) {
                int at = i;
                check.only("way " + i, set, x -> x.way(ship, other, at), i == 0 ? ship == 0 ? 1 : 2 : 0);
            }
            Consumer<FasterToBeLater> sighted = set.andThen(x -> Check.put(x, 0, 0, 10, 1, 10));
            check.only("burnt at 10", sighted, x -> x.burnt(0, 1, ship), pair[2]);
            check.only("burnt at 9", set.andThen(x -> Check.put(x, 0, 0, 9, 1, 9)), x -> x.burnt(0, 1, ship), Check.NONE);
            check.only("burnt at 9, where it lands", set.andThen(x -> Check.put(x, 0, 0, 9, 1, 10)), x -> x.burnt(0, 1, ship), Check.NONE);
        }
        check.only("two of them by 20", set, x -> x.cheapest(2, 3, 20), 5);
        check.only("two of them by 19", set, x -> x.cheapest(2, 3, 19), Check.NONE);
        check.only("there and back by 20", set, x -> x.round(0, 10, 20), 2);
    }

    /** All CIRCLES there can be, each with the longest TIME. */
    private static void greatestSky() {
        Consumer<FasterToBeLater> set = x -> {
            x.circles(6);
            for (int c = 0; c < 6; c++) {
                x.time(c, 20);
                x.cost(c, c + 1);
            }
            x.ship(0, 0, 19, 99);
            x.ship(4, 5, 19, 0);
            x.ship(5, 5, 19, 99);
            x.ship(4, 0, 19, 0);
            x.ship(4, 5, 0, 0);
            Check.put(x, 0, 1, 0, 0, 19, 50, 5, 9);
        };
        check.only("up", set, x -> x.soonest(0, 1), 50);
        check.only("up, drops", set, x -> x.cheapest(0, 1, 60), 15);
        check.only("down", set, x -> x.soonest(2, 3), 50);
        check.only("down, a TANKER's drops", set, x -> x.cheapest(2, 3, 60), 9);
        check.only("never", set, x -> x.cheapest(0, 4, 60), Check.NONE);
        check.only("burnt", set, x -> x.burnt(0, 2, 0), 15);
        check.only("round", set, x -> x.round(0, 14, 60), 15);
        FasterToBeLater up = Check.made(set);
        FasterToBeLater down = Check.made(set);
        for (int i = 0; i < 50; i++) {
            check.due("way up " + i, up.way(0, 1, i), i % 10 == 0 ? 1 : 0);
            check.due("way down " + i, down.way(2, 3, i), i % 10 == 0 ? 2 : 0);
        }
        check.due("no more up", up.way(0, 1, 50), Check.STUCK);
        check.due("no more down", down.way(2, 3, 50), Check.STUCK);
    }

    /** What was asked ahead has no part in what is answered. */
    private static void oneAfterAnother() {
        Consumer<FasterToBeLater> set = x -> {
            Check.feed(x, "circles 3;time 0 4;time 1 3;time 2 5;cost 0 2;cost 1 5;ship 0 0 1 drops 20;ship 4 1 2;ship 4 2 3;ship 1 1 0 drops 3;ship 2 0 1");
            Check.put(x, 0, 0, 9, 1, 1, 20, 2, 2);
            Check.put(x, 1, 0, 4, 0, 1);
        };
        java.util.List<ToLongFunction<FasterToBeLater>> asked = java.util.List.of(
            x -> x.cheapest(0, 1, 60), x -> x.round(0, 22, 60), x -> x.soonest(3, 2), x -> x.way(0, 2, 0), x -> x.burnt(0, 2, 0), x -> x.cheapest(4, 0, 60),
            x -> x.round(3, 6, 30), x -> x.soonest(0, 2), x -> x.burnt(1, 1, 4), x -> x.tag(0, 1, 5), x -> x.cheapest(3, 4, 60), x -> x.way(3, 1, 1),
            x -> x.tag(3, 0, 4), x -> x.round(4, 1, 0), x -> x.soonest(4, 2));
        for (int on = 1; on < asked.size(); on++) {
            FasterToBeLater x = Check.made(set);
            for (int i = 0; i < asked.size(); i++) {
                int k = (on * i + on) % asked.size();
                check.due("question " + k + " behind others", asked.get(k).applyAsLong(x), asked.get(k).applyAsLong(Check.made(set)));
            }
        }
        // what is done between has a part in it
        FasterToBeLater x = Check.made(set);
        x.cheapest(0, 1, 60);
        x.tag(0, 1, 5);
        x.step(3);
        x.cost(0, 9);
        FasterToBeLater y = Check.made(set);
        y.step(3);
        y.cost(0, 9);
        for (ToLongFunction<FasterToBeLater> question : asked) {
            check.due("behind a change", question.applyAsLong(x), question.applyAsLong(y));
        }
    }

    private static void meetsNow() {
        check.of(25, "CHEAPEST; NONE.");
        Consumer<FasterToBeLater> met = Check.text("ship 2 0 1;ship 3 0 1;ship 3 0 2;ship 0 1 2");
        check.only("at STEP 0", met, x -> x.cheapest(0, 1, 0), 0);
        check.only("at STEP 0, by 60", met, x -> x.cheapest(0, 1, 60), 0);
        check.only("never", met, x -> x.cheapest(0, 2, 60), Check.NONE);
        check.only("not at STEP 0", met, x -> x.cheapest(3, 0, 0), Check.NONE);
        check.of(26, "SOONEST; NONE.");
        check.only("at STEP 0", met, x -> x.soonest(0, 1), 0);
        check.only("never", met, x -> x.soonest(0, 2), Check.NONE);
        check.of(27, "The i-th code of THE WAY.");
        check.refused("a WAY of no codes", met, x -> x.way(0, 1, 0), Check.STUCK);
        check.only("the only code of one", two(1, 3), x -> x.way(0, 1, 0), 1);
    }

    private static void busyOnes() {
        // SHIP 2 goes round on CIRCLE 1; the PARCEL thrown from PLACE 1 comes to PLACE 4 there at STEP 2
        Consumer<FasterToBeLater> thrown = Check.text("ship 2 0 1;ship 4 0 1 drops 1;ship 0 1 2").andThen(x -> x.hurl(1, 0, 1));
        check.only("a PARCEL under way", thrown, x -> x.soonest(0, 2), 2);
        check.only("it costs nothing", thrown, x -> x.cheapest(0, 2, 2), 0);
        check.only("not ahead of it", thrown, x -> x.cheapest(0, 2, 1), Check.NONE);
        check.only("from the other's side", thrown, x -> x.soonest(2, 0), 2);
        check.only("from the other's side, drops", thrown, x -> x.cheapest(2, 0, 2), 0);
        check.only("from the other's side, not ahead of it", thrown, x -> x.cheapest(2, 0, 1), Check.NONE);
        check.only("its code 0", thrown, x -> x.way(0, 2, 0), 0);
        check.only("its code 1", thrown, x -> x.way(0, 2, 1), 0);
        check.refused("no code 2", thrown, x -> x.way(0, 2, 2), Check.STUCK);
        // BUSY for 10 STEPS, the most there is, and then along with the other
        Consumer<FasterToBeLater> ten = Check.text("time 1 20;ship 0 1 0 drops 9;ship 4 0 0").andThen(x -> x.change(0, 2));
        check.only("BUSY for ten", ten, x -> x.soonest(0, 1), 10);
        check.only("by ten", ten, x -> x.cheapest(0, 1, 10), 0);
        check.only("by nine", ten, x -> x.cheapest(0, 1, 9), Check.NONE);
        check.only("the other is BUSY", ten, x -> x.cheapest(1, 0, 9), Check.NONE);
        check.only("the other has come", ten, x -> x.cheapest(1, 0, 10), 0);
        check.only("while it is, its codes are 0", ten, x -> x.way(0, 1, 9), 0);
        check.refused("and no more", ten, x -> x.way(0, 1, 10), Check.STUCK);
    }

    /** Of FLIGHTS of as few drops that meet at one STEP, the one that waits longest ahead is the first. */
    private static void firstOfSeveral() {
        check.of(Check.TERMS, "THE WAY to that: of all FLIGHTS that MEET it then that of the fewest drops, of several the first (code by code).");
        FasterToBeLater x = Check.read("circles 3;time 0 4;time 1 4;time 2 4;ship 0 0 0 drops 9;ship 4 2 1");
        // at equal TIMES each CHANGE puts it half a round on and takes 2 STEPS: half a round of drift.
        // So two CHANGES lead to PLACE 0 at STEP 4, where the STATION is at 1: they never meet
        check.due("never", x.soonest(0, 1), Check.NONE);
        way("always", "circles 3;time 0 4;time 1 4;time 2 4;ship 0 0 0 drops 9;ship 4 2 0", 1, 0, 1, 0);
        // CIRCLE 1 has TIME 2: it is crossed in 1 STEP. From PLACE p of CIRCLE 0 (TIME 4) up to p by 2 and 1 of 2,
        // at STEP k and 2; from there q to 2 q and 2 of 4 on CIRCLE 2. Only waiting on CIRCLE 0 or 1 can differ:
        // 1 0 0 1: PLACE 1 of 2 at STEP 2, 0 at STEP 3, up to PLACE 2 at STEP 4, where the STATION is (2 and 4 of 4);
        // 0 1 0 1: from PLACE 1 of 4: 0 and 1 of 2 at STEP 3, up to PLACE 0: no. So it is the former
        way("one of several", "circles 3;time 0 4;time 1 2;time 2 4;ship 0 0 0 drops 9;ship 4 2 2", 1, 0, 0, 1);
        // CIRCLES 0 and 1 with TIMES 2 and 2: up leads from PLACE 0 to 1 in 1 STEP, the same as to drift. Up from
        // CIRCLE 1 to 2 (TIME 4): from q to 2 q and 2 of 4. Waiting below or between is all one; below is first:
        // at STEP 4, from PLACE 1 at STEP 3, comes to 0 where the STATION is; at STEP 2 from 1: to 0, the STATION at 2;
        // at STEP 3 from 0: to 2, the STATION at 3
        way("all one", "circles 3;time 0 2;time 1 2;time 2 4;ship 0 0 0 drops 2;ship 4 2 0", 0, 0, 1, 1);
        // the same with the SHIP above and the other below it: down codes are the last, waiting the first
        way("all one, down", "circles 3;time 0 4;time 1 2;time 2 2;ship 0 2 0 drops 2;ship 4 0 0", 0, 0, 2, 2);
    }

    private static void way(String what, String text, int... due) {
        FasterToBeLater x = Check.read(text);
        check.due(what + ", soonest", x.soonest(0, 1), due.length);
        for (int i = 0; i < due.length; i++) {
            check.due(what + ", way " + i, x.way(0, 1, i), due[i]);
        }
        check.due(what + ", behind its end", x.way(0, 1, due.length), Check.STUCK);
    }

    /** In small worlds, all FLIGHTS of a few STEPS are flown one by one, and what comes of them is compared. */
    private static void allFlights() {
        String[] skies = {
            "circles 2;time 0 2;time 1 2;cost 0 3", "circles 2;time 0 2;time 1 3;cost 0 2", "circles 2;time 0 3;time 1 2;cost 0 9",
            "circles 3;time 0 2;time 1 3;time 2 2;cost 0 1;cost 1 5", "circles 3;time 0 4;time 1 2;time 2 3;cost 0 7;cost 1 2",
            "circles 3;time 0 3;time 1 5;time 2 2;cost 0 2;cost 1 1",
        };
        for (String sky : skies) {
            for (int kind = 0; kind <= 1; kind++) {
                for (int place = 0; place < 4; place++) {
                    for (int drops = 1; drops <= 9; drops += 4) {
                        String ship = ";ship " + kind + " " + place % 2 + " " + place / 2 % 2 + " drops " + drops;
                        allFlights(sky + ship + ";ship 4 " + (place + drops) % 2 + " " + (1 - place % 2));
                    }
                }
            }
        }
    }

    private static void allFlights(String text) {
        int horizon = 5;
        Flights flights = new Flights(text, horizon);
        flights.flyAll();
        for (int t = 0; t <= horizon; t++) {
            int by = t;
            check.due(text + ", cheapest by " + t, Check.read(text).cheapest(0, 1, by), flights.fewestBy(t));
        }
        FasterToBeLater x = Check.read(text);
        int first = x.soonest(0, 1);
        int due = flights.firstStep();
        check.due(text + ", soonest", first >= 0 && first <= horizon ? first : Check.NONE, due);
        for (int i = 0; i < due; i++) {
            check.due(text + ", way " + i, x.way(0, 1, i), flights.best[due][i]);
        }
    }

    /** What all FLIGHTS of SHIP 0 come to: for each STEP, the fewest drops and the first FLIGHT of the fewest that it can pay. */
    private static final class Flights {
        final String text;
        final int horizon;
        final int[] fewest;
        final int[] fewestPaid;
        final int[][] best;
        final int purse;

        Flights(String text, int horizon) {
            this.text = text;
            this.horizon = horizon;
            fewest = new int[horizon + 1];
            fewestPaid = new int[horizon + 1];
            best = new int[horizon + 1][];
            Arrays.fill(fewest, MOST);
            Arrays.fill(fewestPaid, MOST);
            purse = Check.read(text).shipOf(0, 3);
        }

        void flyAll() {
            for (int n = 0; n <= horizon; n++) {
                fly(new int[n], 0);
            }
        }

        private void fly(int[] codes, int at) {
            if (at < codes.length) {
                for (int code = 0; code <= 2; code++) {
                    codes[at] = code;
                    fly(codes, at + 1);
                }
                return;
            }
            int n = codes.length;
            FasterToBeLater x = Check.read(text);
            x.fill(0, 99);
            x.row(0, 0, n);
            for (int i = 0; i < n; i++) {
                x.set(0, i, codes[i]);
            }
            boolean isThere = x.judge(0, n, 0) == Check.NONE && x.flown(0, n, 0, 3) == 0
                && x.flown(0, n, 0, 0) == x.behind(1, n, 0) && x.flown(0, n, 0, 1) == x.behind(1, n, 1);
            if (isThere) {
                int drops = 99 - x.flown(0, n, 0, 2);
                fewest[n] = Math.min(fewest[n], drops);
                if (drops <= purse && drops < fewestPaid[n]) {
                    fewestPaid[n] = drops;
                    best[n] = codes.clone();
                }
            }
        }

        int fewestBy(int t) {
            int least = MOST;
            for (int i = 0; i <= t; i++) {
                least = Math.min(least, fewest[i]);
            }
            return least == MOST ? Check.NONE : least;
        }

        int firstStep() {
            for (int i = 0; i <= horizon; i++) {
                if (best[i] != null) {
                    return i;
                }
            }
            return Check.NONE;
        }
    }

    private static void round() {
        check.of(28, "ROUND; NONE.");
        // others: 1 with it, 2 a STATION above that it meets by k 0, 3 never by drifting
        Consumer<FasterToBeLater> set = Check.text("circles 2;time 0 2;time 1 4;cost 0 3;ship 0 0 0;ship 2 0 0;ship 4 1 1;ship 2 0 1;ship 2 0 0");
        check.only("of none", set, x -> x.round(0, 0, 0), 0);
        check.only("of one that is here", set, x -> x.round(0, 2, 0), 0);
        check.only("of one above", set, x -> x.round(0, 4, 1), 3);
        check.only("of both", set, x -> x.round(0, 6, 1), 3);
        check.only("of both, too early", set, x -> x.round(0, 6, 0), Check.NONE);
        check.only("of three", set, x -> x.round(0, 22, 60), 3);
        // up ahead of STEP 0, at PLACE 2 at STEP 1; down takes 2 STEPS, to PLACE p by 2 and 1 of 2
        check.only("of one on the other side", set, x -> x.round(0, 8, 60), 6);
        check.only("of all three", set, x -> x.round(0, 14, 60), 6);
        check.only("a PARCEL's, of one that is here", set, x -> x.round(1, 17, 0), 0);
        check.only("a PARCEL's, of one above", set, x -> x.round(1, 4, 60), Check.NONE);
        Consumer<FasterToBeLater> way = set.andThen(x -> x.fill(0, 9)).andThen(x -> x.change(0, 1));
        check.only("of none, BUSY", way, x -> x.round(0, 0, 0), 0);
        check.only("of one it comes to", way, x -> x.round(0, 4, 1), 0);
        check.only("of one it comes to, too early", way, x -> x.round(0, 4, 0), Check.NONE);
    }

    private static void roundOfThree() {
        check.of(Check.TERMS, "ROUND of a SHIP to a set of others (3 at most): the fewest drops by which it has MET each of them by t, in whatever order; NONE.");
        // all TIMES 2: each CHANGE takes one STEP and keeps the direction, so that one meets who is on a CIRCLE when it comes there
        Consumer<FasterToBeLater> set = Check.text("circles 6;time 0 2;time 1 2;time 2 2;time 3 2;time 4 2;time 5 2;"
            + "cost 0 2;cost 1 3;cost 2 4;cost 3 5;cost 4 6;ship 0 2 0;ship 4 0 0;ship 4 4 0;ship 4 5 0;ship 4 1 0;ship 4 3 1");
        int[][] due = {
            // the set, the fewest drops, the fewest STEPS
            {2, 5, 2}, {4, 9, 2}, {8, 15, 3}, {16, 3, 1},
            {18, 5, 2}, {12, 15, 3}, {6, 19, 6}, {20, 15, 4}, {24, 21, 5}, {10, 25, 7},
            {22, 19, 6}, {14, 25, 7}, {28, 21, 5}, {26, 25, 7},
        };
        for (int[] d : due) {
            check.only("round of " + d[0], set, x -> x.round(0, d[0], 60), d[1]);
            check.only("round of " + d[0] + ", just so soon", set, x -> x.round(0, d[0], d[2]), d[1]);
            check.only("round of " + d[0] + ", too early", set, x -> x.round(0, d[0], d[2] - 1), Check.NONE);
        }
        check.only("with one that it can't meet", set, x -> x.round(0, 32, 60), Check.NONE);
        check.only("with one of three that it can't meet", set, x -> x.round(0, 52, 60), Check.NONE);
    }

    private static void roundInAnyOrder() {
        // the SHIP is above; one below that it must go down to; one above with it only now: the way back need not be
        Consumer<FasterToBeLater> set = Check.text("circles 2;time 0 4;time 1 4;cost 0 2;ship 0 1 0;ship 4 1 0;ship 4 0 0;ship 4 1 0");
        check.only("down alone", set, x -> x.round(0, 4, 2), 2);
        check.only("up and down", set, x -> x.round(0, 14, 2), 2);
        check.only("too early", set, x -> x.round(0, 14, 1), Check.NONE);
        Consumer<FasterToBeLater> below = Check.text("circles 2;time 0 4;time 1 4;cost 0 2;ship 0 0 0;ship 4 1 0;ship 4 0 0");
        check.only("the near one first", below, x -> x.round(0, 6, 2), 2);
        // all TIMES 2, one below and one above: the order that costs one drop less, whoever has the lower number
        String sky = "circles 3;time 0 2;time 1 2;time 2 2;cost 0 %d;cost 1 %d;ship 0 1 0;ship 4 %d 0;ship 4 %d 0";
        for (int first = 0; first <= 2; first += 2) {
            check.only("below first", Check.text(String.format(sky, 1, 2, first, 2 - first)), x -> x.round(0, 6, 3), 4);
            check.only("above first", Check.text(String.format(sky, 2, 1, first, 2 - first)), x -> x.round(0, 6, 3), 4);
            check.only("below first, by 60", Check.text(String.format(sky, 1, 2, first, 2 - first)), x -> x.round(0, 6, 60), 4);
            check.only("above first, by 60", Check.text(String.format(sky, 2, 1, first, 2 - first)), x -> x.round(0, 6, 60), 4);
            check.only("neither, too early", Check.text(String.format(sky, 1, 1, first, 2 - first)), x -> x.round(0, 6, 2), Check.NONE);
        }
    }

    private static void home() {
        check.of(Check.TERMS, "HOME: the fewest drops to CIRCLE 0, and the fewest STEPS with these till it is there and not BUSY (each CHANGE at once, behind what it is BUSY now).");
        Consumer<FasterToBeLater> set = Check.text(
            "cost 0 5;cost 1 3;cost 2 9;time 1 3;ship 0 3 0;ship 1 3 0;ship 4 0 0;ship 2 0 0;ship 3 1 0;ship 5 0 0 drops 9");
        // CIRCLE 3 takes 5 STEPS, 2 takes 4, 1 takes 1
        check.only("drops", set, x -> x.home(0, 0), 17);
        check.only("steps", set, x -> x.home(0, 1), 10);
        check.only("a TUG's drops", set, x -> x.home(1, 0), 10);
        check.only("a TUG's steps", set, x -> x.home(1, 1), 10);
        Consumer<FasterToBeLater> busy = set.andThen(x -> x.change(5, 1));
        check.only("a BUSY one's drops", busy, x -> x.home(5, 0), 3);
        check.only("a BUSY one's steps", busy, x -> x.home(5, 1), 3);
        check.only("a STEP later", busy.andThen(x -> x.step(1)), x -> x.home(5, 1), 2);
        check.only("one more", busy.andThen(x -> x.step(2)), x -> x.home(5, 1), 1);
        check.only("and one more", busy.andThen(x -> x.step(3)), x -> x.home(5, 1), 1);
    }

    private static void homeEdges() {
        check.of(29, "HOME: drops (what 0), STEPS (1).");
        Consumer<FasterToBeLater> far = Check.text("circles 6;time 1 20;time 2 20;time 3 20;time 4 20;time 5 20;"
            + "cost 0 9;cost 1 9;cost 2 9;cost 3 9;cost 4 9;ship 0 5 19;ship 1 5 0;ship 0 0 3");
        check.only("the farthest, drops", far, x -> x.home(0, 0), 45);
        check.only("the farthest, STEPS", far, x -> x.home(0, 1), 50);
        check.only("the farthest, a TUG", far, x -> x.home(1, 0), 25);
        check.only("at home, drops", far, x -> x.home(2, 0), 0);
        check.only("at home, STEPS", far, x -> x.home(2, 1), 0);
        Consumer<FasterToBeLater> near = Check.text("time 1 2;ship 0 1 0;ship 4 0 0;ship 2 0 0;ship 3 0 0");
        check.only("the nearest, STEPS", near, x -> x.home(0, 1), 1);
        for (int ship = 1; ship <= 3; ship++) {
            int one = ship;
            check.only("one that can't change, at home: drops", near, x -> x.home(one, 0), 0);
            check.only("one that can't change, at home: STEPS", near, x -> x.home(one, 1), 0);
        }
        Consumer<FasterToBeLater> thrown = Check.text("ship 2 1 0;ship 4 1 0 drops 1").andThen(x -> x.hurl(1, 0, 2));
        check.only("one thrown home, drops", thrown, x -> x.home(0, 0), 0);
        check.only("one thrown home, STEPS", thrown, x -> x.home(0, 1), 3);
    }

    /** Five SHIPS, the first two of which never MEET. */
    private static void five(FasterToBeLater x) {
        Check.feed(x, "ship 0 0 0;ship 0 0 1;ship 2 1 2;ship 0 0 3;ship 0 2 2");
    }

    private static void cheapestRefusals() {
        check.of(25, "BAD: also one twice, t not 0 to 60. (NONE isn't refused.)");
        check.only("NONE", PlansTest::five, x -> x.cheapest(2, 1, 60), Check.NONE);
        check.span("cheapest ship", PlansTest::five, (x, ship) -> x.cheapest(ship, 4, 5), 0, 3);
        check.span("cheapest other", PlansTest::five, (x, other) -> x.cheapest(0, other, 5), 1, 4);
        check.span("cheapest t", PlansTest::five, (x, t) -> x.cheapest(0, 1, t), 0, 60);
        for (int i = 0; i < 5; i++) {
            int ship = i;
            check.refused("one twice", PlansTest::five, x -> x.cheapest(ship, ship, 5), Check.BAD);
        }
        check.refused("one that isn't", PlansTest::five, x -> x.cheapest(5, 0, 5), Check.BAD);
        check.refused("another that isn't", PlansTest::five, x -> x.cheapest(0, 5, 5), Check.BAD);
    }

    private static void soonestRefusals() {
        check.of(26, "BAD: also one twice. (NONE isn't refused.)");
        check.only("NONE", PlansTest::five, x -> x.soonest(0, 1), Check.NONE);
        check.span("soonest ship", PlansTest::five, (x, ship) -> x.soonest(ship, 4), 0, 3);
        check.span("soonest other", PlansTest::five, (x, other) -> x.soonest(0, other), 1, 4);
        for (int i = 0; i < 5; i++) {
            int ship = i;
            check.refused("one twice", PlansTest::five, x -> x.soonest(ship, ship), Check.BAD);
        }
        check.refused("one that isn't", PlansTest::five, x -> x.soonest(5, 0), Check.BAD);
        check.refused("another that isn't", PlansTest::five, x -> x.soonest(0, 5), Check.BAD);
    }

    private static void wayRefusals() {
        check.of(27, "BAD: also one twice, i below 0; STUCK: there is none.");
        check.span("way ship", PlansTest::five, (x, ship) -> x.way(ship, 4, 0), 0, 3);
        check.span("way other", PlansTest::five, (x, other) -> x.way(0, other, 0), 1, 4);
        for (int i = 0; i < 5; i++) {
            int ship = i;
            check.refused("one twice", PlansTest::five, x -> x.way(ship, ship, 0), Check.BAD);
        }
        check.refused("one that isn't", PlansTest::five, x -> x.way(5, 0, 0), Check.BAD);
        check.refused("another that isn't", PlansTest::five, x -> x.way(0, 5, 0), Check.BAD);
        check.refused("i -1, and there is none", PlansTest::five, x -> x.way(0, 1, -1), Check.BAD);
        check.refused("the least i, and there is none", PlansTest::five, x -> x.way(0, 1, LEAST), Check.BAD);
        check.refused("i -1, and there is one", two(1, 3), x -> x.way(0, 1, -1), Check.BAD);
        check.refused("there is none", PlansTest::five, x -> x.way(0, 1, 0), Check.STUCK);
        check.refused("there is none of that number", two(1, 3), x -> x.way(0, 1, 1), Check.STUCK);
        int[] far = {59, 60, 61, 1000, MOST};
        for (int i : far) {
            check.refused("there is none, far behind", two(1, 3), x -> x.way(0, 1, i), Check.STUCK);
            check.refused("there is none at all", PlansTest::five, x -> x.way(0, 1, i), Check.STUCK);
        }
    }

    private static void roundRefusals() {
        check.of(28, "BAD: also t, a set with the SHIP itself, others than there are, or more than 3. (NONE isn't refused.)");
        check.only("NONE", PlansTest::five, x -> x.round(2, 1, 60), Check.NONE);
        check.span("round ship", PlansTest::five, (x, ship) -> x.round(ship, 0, 5), 0, 4);
        check.span("round t", PlansTest::five, (x, t) -> x.round(0, 2, t), 0, 60);
        check.span("round t, of none", PlansTest::five, (x, t) -> x.round(0, 0, t), 0, 60);
        for (int set = -70; set < 140; set++) {
            int others = set;
            boolean may = set >= 0 && set < 32 && (set & 4) == 0 && set != 27;
            FasterToBeLater x = Check.made(PlansTest::five);
            x.round(2, others, 3);
            check.due("the set " + set, x.status(12), may ? 0 : 1);
        }
        check.refused("with itself", PlansTest::five, x -> x.round(0, 3, 5), Check.BAD);
        check.refused("with itself alone", PlansTest::five, x -> x.round(0, 1, 5), Check.BAD);
        check.refused("others than there are", PlansTest::five, x -> x.round(0, 32, 5), Check.BAD);
        check.refused("four", PlansTest::five, x -> x.round(0, 30, 5), Check.BAD);
        check.refused("four of five", x -> x.bolts(6), x -> x.round(0, 60, 5), Check.BAD);
        check.refused("the seventh of six", x -> x.bolts(6), x -> x.round(0, 64, 5), Check.BAD);
        check.taken("the sixth of six", x -> { five(x); x.ship(0, 0, 0, 0); }, x -> x.round(0, 32, 0), 0);
        check.refused("all bits but its own", PlansTest::five, x -> x.round(0, -2, 5), Check.BAD);
        check.refused("the sign", PlansTest::five, x -> x.round(0, LEAST, 5), Check.BAD);
        check.refused("the sign and one", PlansTest::five, x -> x.round(0, LEAST | 2, 5), Check.BAD);
        check.refused("all but the sign", PlansTest::five, x -> x.round(0, MOST, 5), Check.BAD);
        check.refused("with no SHIPS", x -> { }, x -> x.round(0, 0, 5), Check.BAD);
    }

    private static void homeRefusals() {
        check.of(29, "BAD; STUCK: a PARCEL, BOLT, STATION on another CIRCLE.");
        Consumer<FasterToBeLater> set = Check.text("ship 2 1 0;ship 3 1 0;ship 4 1 0 drops 1;ship 2 3 0;ship 0 1 0");
        for (int ship = 0; ship < 4; ship++) {
            int one = ship;
            check.refused("drops of " + ship, set, x -> x.home(one, 0), Check.STUCK);
            check.refused("STEPS of " + ship, set, x -> x.home(one, 1), Check.STUCK);
            check.span("home what of " + ship, set, (x, what) -> x.home(one, what), 0, 1);
        }
        check.span("home what", set, (x, what) -> x.home(4, what), 0, 1);
        check.span("home ship", set, (x, ship) -> x.home(ship, 0), 0, 4);
        Consumer<FasterToBeLater> thrown = set.andThen(x -> x.hurl(2, 0, 1));
        check.refused("thrown to another CIRCLE", thrown, x -> x.home(0, 0), Check.STUCK);
    }
}
