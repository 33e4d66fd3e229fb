import java.util.function.Consumer;

/** Promises 25 to 29: cheapest, soonest, way, round, home. */
public final class PlansTest {
    private static final Check check = new Check("PlansTest");

    public static void main(String[] args) {
        oneChange();
        lastStep();
        fewerOrSooner();
        busyAndUnable();
        firstOfSeveral();
        round();
        roundInAnyOrder();
        home();
        refusals();
        check.end();
    }

    /**
     * TIME 2 and 4, COST 3. A SHIP at PLACE 0 of CIRCLE 0 that goes up ahead of STEP k comes at STEP k and 1
     * to PLACE 2 (k even) or 0 (k odd); a STATION at PLACE p is then at p and k and 1 of 4.
     */
    private static Consumer<FasterToBeLater> two(int p, int drops) {
        return x -> Check.feed(x, "circles 2;time 0 2;time 1 4;cost 0 3;ship 0 0 0 drops " + drops + ";ship 4 1 " + p);
    }

    private static void oneChange() {
        // p 1: k 0. p 3: k 2. p 0: k 3. p 2: k 1
        int[][] due = {{1, 1}, {3, 3}, {0, 4}, {2, 2}};
        for (int[] d : due) {
            int p = d[0];
            int first = d[1];
            check.only("soonest, p " + p, two(p, 3), x -> x.soonest(0, 1), first);
            check.only("soonest with too few drops, p " + p, two(p, 2), x -> x.soonest(0, 1), Check.NONE);
            check.only("cheapest in time, p " + p, two(p, 0), x -> x.cheapest(0, 1, first), 3);
            check.only("cheapest too early, p " + p, two(p, 99), x -> x.cheapest(0, 1, first - 1), Check.NONE);
            for (int i = 0; i < first; i++) {
                int at = i;
                check.only("way, p " + p, two(p, 5), x -> x.way(0, 1, at), i == first - 1 ? 1 : 0);
            }
            check.refused("way behind its end, p " + p, two(p, 5), x -> x.way(0, 1, first), Check.STUCK);
            check.refused("no way, p " + p, two(p, 2), x -> x.way(0, 1, 0), Check.STUCK);
        }
        Consumer<FasterToBeLater> tug = x -> Check.feed(x, "circles 2;time 0 2;time 1 4;cost 0 3;ship 1 0 0 drops 2;ship 4 1 1");
        check.only("a tug's drops", tug, x -> x.cheapest(0, 1, 1), 2);
        check.only("a tug's soonest", tug, x -> x.soonest(0, 1), 1);
    }

    private static void lastStep() {
        // ahead of STEP 51 it is at PLACE 1 of 18, and 9 STEPS later at 0 and 7 of 15, where the STATION is then
        Consumer<FasterToBeLater> set = x -> Check.feed(x, "circles 2;time 0 18;time 1 15;ship 0 0 4 drops 1;ship 4 1 7");
        check.only("soonest at 60", set, x -> x.soonest(0, 1), 60);
        check.only("cheapest by 60", set, x -> x.cheapest(0, 1, 60), 1);
        check.only("cheapest by 59", set, x -> x.cheapest(0, 1, 59), Check.NONE);
        check.only("round by 60", set, x -> x.round(0, 2, 60), 1);
        check.only("round by 59", set, x -> x.round(0, 2, 59), Check.NONE);
        FasterToBeLater x = Check.made(set);
        for (int i = 0; i < 60; i++) {
            check.due("way of 60, " + i, x.way(0, 1, i), i == 51 ? 1 : 0);
        }
        check.due("way of 60, 60", x.way(0, 1, 60), Check.STUCK);
        Consumer<FasterToBeLater> late = y -> Check.feed(y, "circles 2;time 0 18;time 1 15;ship 0 0 3 drops 1;ship 4 1 6");
        check.only("soonest at 61 is none", late, y -> y.soonest(0, 1), Check.NONE);
    }

    private static void fewerOrSooner() {
        // one CHANGE leads there at STEP 60, three do by 59: what it has decides, and by 60 the fewest do
        String text = "circles 2;time 0 9;time 1 8;ship 0 0 8 drops %d;ship 4 1 0";
        Consumer<FasterToBeLater> poor = x -> Check.feed(x, String.format(text, 1));
        Consumer<FasterToBeLater> rich = x -> Check.feed(x, String.format(text, 3));
        check.only("cheapest by 60", rich, x -> x.cheapest(0, 1, 60), 1);
        check.only("cheapest by 59", poor, x -> x.cheapest(0, 1, 59), 3);
        check.only("soonest of a poor one", poor, x -> x.soonest(0, 1), 60);
        FasterToBeLater x = Check.made(rich);
        int first = x.soonest(0, 1);
        check.due("soonest of a rich one is sooner", first < 60 ? 1 : 0, 1);
        flyInTruth(x, first);
    }

    /** Follows THE WAY of SHIP 0 to SHIP 1 with CHANGES and STEPS in truth. */
    private static void flyInTruth(FasterToBeLater x, int first) {
        int[] codes = new int[first];
        for (int i = 0; i < first; i++) {
            codes[i] = x.way(0, 1, i);
        }
        for (int i = 0; i < first; i++) {
            check.due("they don't meet at " + i, x.meets(0, 1), 0);
            if (codes[i] != 0) {
                check.due("the change ahead of step " + i, x.change(0, codes[i]), 1);
            }
            x.step(1);
        }
        check.due("they meet at " + first, x.meets(0, 1), 1);
    }

    private static void busyAndUnable() {
        Consumer<FasterToBeLater> met = x -> Check.feed(x, "ship 2 0 1;ship 3 0 1;ship 3 0 2;ship 0 1 2");
        check.only("a parcel that meets now", met, x -> x.cheapest(0, 1, 0), 0);
        check.only("its soonest", met, x -> x.soonest(0, 1), 0);
        check.refused("a way of no codes", met, x -> x.way(0, 1, 0), Check.STUCK);
        check.only("a parcel that never meets", met, x -> x.cheapest(0, 2, 60), Check.NONE);
        check.only("nor soonest", met, x -> x.soonest(0, 2), Check.NONE);
        // SHIP 3 waits at CIRCLE 1; the parcel thrown from PLACE 1 comes to PLACE 4 there at STEP 2
        Consumer<FasterToBeLater> thrown = x -> {
            Check.feed(x, "ship 2 0 1;ship 4 0 1 drops 1;ship 0 1 2");
            x.hurl(1, 0, 1);
        };
        check.only("a parcel under way", thrown, x -> x.soonest(0, 2), 2);
        check.only("it costs nothing", thrown, x -> x.cheapest(0, 2, 2), 0);
        check.only("not ahead of it", thrown, x -> x.cheapest(0, 2, 1), Check.NONE);
        check.only("from the other's side", thrown, x -> x.soonest(2, 0), 2);
        check.only("its code 0", thrown, x -> x.way(0, 2, 0), 0);
        check.only("its code 1", thrown, x -> x.way(0, 2, 1), 0);
        check.refused("no code 2", thrown, x -> x.way(0, 2, 2), Check.STUCK);
    }

    /** Of FLIGHTS of as few drops that meet at one STEP, the one that waits longest ahead is the first. */
    private static void firstOfSeveral() {
        FasterToBeLater x = Check.read("circles 3;time 0 4;time 1 4;time 2 4;ship 0 0 0 drops 9;ship 4 2 1");
        // at equal TIMES each CHANGE puts it half a round on and takes 2 STEPS: half a round of drift.
        // So two CHANGES lead to PLACE 0 at STEP 4, where the STATION is at 1: they never meet
        check.due("never", x.soonest(0, 1), Check.NONE);
        FasterToBeLater y = Check.read("circles 3;time 0 4;time 1 4;time 2 4;ship 0 0 0 drops 9;ship 4 2 0");
        check.due("always", y.soonest(0, 1), 4);
        int[] due = {1, 0, 1, 0};
        for (int i = 0; i < 4; i++) {
            check.due("way " + i, y.way(0, 1, i), due[i]);
        }
        // CIRCLE 1 has TIME 2: it is crossed in 1 STEP. From PLACE p of CIRCLE 0 (TIME 4) up to p by 2 and 1 of 2,
        // at STEP k and 2; from there q to 2 q and 2 of 4 on CIRCLE 2. Only waiting on CIRCLE 0 or 1 can differ
        FasterToBeLater z = Check.read("circles 3;time 0 4;time 1 2;time 2 4;ship 0 0 0 drops 9;ship 4 2 2");
        check.due("soonest of several", z.soonest(0, 1), 4);
        // 1 0 0 1: PLACE 1 of 2 at STEP 2, 0 at STEP 3, up to PLACE 2 at STEP 4, where the STATION is (2 and 4 of 4);
        // 0 1 0 1: from PLACE 1 of 4: 0 and 1 of 2 at STEP 3, up to PLACE 0: no. So it is the former
        int[] way = {1, 0, 0, 1};
        for (int i = 0; i < 4; i++) {
            check.due("way of several " + i, z.way(0, 1, i), way[i]);
        }
        // CIRCLES 0 and 1 with TIMES 2 and 2: up leads from PLACE 0 to 1 in 1 STEP, the same as to drift. Up from
        // CIRCLE 1 to 2 (TIME 4): from q to 2 q and 2 of 4. Waiting below or between is all one; below is first
        FasterToBeLater w = Check.read("circles 3;time 0 2;time 1 2;time 2 4;ship 0 0 0 drops 2;ship 4 2 0");
        // at STEP 4, from PLACE 1 at STEP 3, comes to 0 where the STATION is; at STEP 2 from 1: to 0, the STATION at 2;
        // at STEP 3 from 0: to 2, the STATION at 3
        check.due("soonest, all one", w.soonest(0, 1), 4);
        int[] last = {0, 0, 1, 1};
        for (int i = 0; i < 4; i++) {
            check.due("way, all one " + i, w.way(0, 1, i), last[i]);
        }
    }

    private static void round() {
        // others: 1 with it, 2 a STATION above that it meets by k 0, 3 never
        Consumer<FasterToBeLater> set = x -> Check.feed(x,
            "circles 2;time 0 2;time 1 4;cost 0 3;ship 0 0 0;ship 2 0 0;ship 4 1 1;ship 2 0 1;ship 2 0 0");
        check.only("of none", set, x -> x.round(0, 0, 0), 0);
        check.only("of one that is here", set, x -> x.round(0, 2, 0), 0);
        check.only("of one above", set, x -> x.round(0, 4, 1), 3);
        check.only("of both", set, x -> x.round(0, 6, 1), 3);
        check.only("of both, too early", set, x -> x.round(0, 6, 0), Check.NONE);
        check.only("of three", set, x -> x.round(0, 22, 60), 3);
        // up ahead of STEP 0, at PLACE 2 at STEP 1; down takes 2 STEPS, to PLACE p by 2 and 1 of 2
        check.only("of one on the other side", set, x -> x.round(0, 8, 60), 6);
        check.only("of all three", set, x -> x.round(0, 14, 60), 6);
        Consumer<FasterToBeLater> way = set.andThen(x -> x.change(0, 1)).andThen(x -> x.fill(0, 9)).andThen(x -> x.change(0, 1));
        check.only("of none, busy", way, x -> x.round(0, 0, 0), 0);
        check.only("of one it comes to", way, x -> x.round(0, 4, 1), 0);
    }

    private static void roundInAnyOrder() {
        // the SHIP is above; one below that it must go down to; one above with it only now: the way back need not be
        Consumer<FasterToBeLater> set = x -> Check.feed(x, "circles 2;time 0 4;time 1 4;cost 0 2;ship 0 1 0;ship 4 1 0;ship 4 0 0;ship 4 1 0");
        check.only("down alone", set, x -> x.round(0, 4, 2), 2);
        check.only("up and down", set, x -> x.round(0, 14, 2), 2);
        check.only("too early", set, x -> x.round(0, 14, 1), Check.NONE);
        Consumer<FasterToBeLater> below = x -> Check.feed(x, "circles 2;time 0 4;time 1 4;cost 0 2;ship 0 0 0;ship 4 1 0;ship 4 0 0");
        check.only("the near one first", below, x -> x.round(0, 6, 2), 2);
    }

    private static void home() {
        Consumer<FasterToBeLater> set = x -> Check.feed(x,
            "cost 0 5;cost 1 3;cost 2 9;time 1 3;ship 0 3 0;ship 1 3 0;ship 4 0 0;ship 2 0 0;ship 3 1 0;ship 5 0 0 drops 9");
        // CIRCLE 3 takes 5 STEPS, 2 takes 4, 1 takes 1
        check.only("drops", set, x -> x.home(0, 0), 17);
        check.only("steps", set, x -> x.home(0, 1), 10);
        check.only("a tug's drops", set, x -> x.home(1, 0), 10);
        check.only("a tug's steps", set, x -> x.home(1, 1), 10);
        check.only("a station at home", set, x -> x.home(2, 0), 0);
        check.only("a parcel at home", set, x -> x.home(3, 1), 0);
        check.refused("a bolt that isn't", set, x -> x.home(4, 0), Check.STUCK);
        check.refused("a bolt that isn't, steps", set, x -> x.home(4, 1), Check.STUCK);
        Consumer<FasterToBeLater> busy = set.andThen(x -> x.change(5, 1));
        check.only("a busy one's drops", busy, x -> x.home(5, 0), 3);
        check.only("a busy one's steps", busy, x -> x.home(5, 1), 3);
        Consumer<FasterToBeLater> thrown = x -> {
            Check.feed(x, "ship 2 1 0;ship 4 1 0 drops 1");
            x.hurl(1, 0, 2);
        };
        check.only("a thrown one's drops", thrown, x -> x.home(0, 0), 0);
        check.only("a thrown one's steps", thrown, x -> x.home(0, 1), 3);
        check.refused("a station elsewhere", thrown, x -> x.home(1, 0), Check.STUCK);
        check.refused("home(0, 2)", thrown, x -> x.home(0, 2), Check.BAD);
        check.refused("home(1, -1)", thrown, x -> x.home(1, -1), Check.BAD);
        check.refused("home(2, 0)", thrown, x -> x.home(2, 0), Check.BAD);
        check.refused("home(-1, 0)", thrown, x -> x.home(-1, 0), Check.BAD);
    }

    private static void refusals() {
        Consumer<FasterToBeLater> set = x -> Check.feed(x, "ship 0 0 0;ship 0 1 1;ship 2 1 2;ship 0 0 3;ship 0 2 2");
        check.refused("cheapest of one twice", set, x -> x.cheapest(1, 1, 5), Check.BAD);
        check.refused("cheapest of none", set, x -> x.cheapest(-1, 1, 5), Check.BAD);
        check.refused("cheapest to none", set, x -> x.cheapest(0, 5, 5), Check.BAD);
        check.refused("cheapest t -1", set, x -> x.cheapest(0, 1, -1), Check.BAD);
        check.refused("cheapest t 61", set, x -> x.cheapest(0, 1, 61), Check.BAD);
        check.refused("soonest of one twice", set, x -> x.soonest(1, 1), Check.BAD);
        check.refused("soonest of none", set, x -> x.soonest(5, 1), Check.BAD);
        check.refused("soonest to none", set, x -> x.soonest(0, -1), Check.BAD);
        check.refused("way of one twice", set, x -> x.way(1, 1, 0), Check.BAD);
        check.refused("way of none", set, x -> x.way(5, 1, 0), Check.BAD);
        check.refused("way i -1", set, x -> x.way(0, 1, -1), Check.BAD);
        check.refused("way far behind", set, x -> x.way(0, 1, Integer.MAX_VALUE), Check.STUCK);
        check.refused("round of none", set, x -> x.round(5, 1, 5), Check.BAD);
        check.refused("round t -1", set, x -> x.round(0, 2, -1), Check.BAD);
        check.refused("round t 61", set, x -> x.round(0, 2, 61), Check.BAD);
        check.refused("round with itself", set, x -> x.round(0, 3, 5), Check.BAD);
        check.refused("round with others than there are", set, x -> x.round(0, 32, 5), Check.BAD);
        check.refused("round with all bits", set, x -> x.round(0, -2, 5), Check.BAD);
        check.refused("round with the sign", set, x -> x.round(0, Integer.MIN_VALUE, 5), Check.BAD);
        check.refused("round of four", set, x -> x.round(0, 30, 5), Check.BAD);
    }
}
