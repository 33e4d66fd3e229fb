import java.util.function.Consumer;

/** Promises 9 to 13, 17 and 18: circles, time, cost, ship, fill, shipOf, circleOf; and what the Terms say of CIRCLES and SHIPS. */
public final class CirclesAndShipsTest {
    private static final Check check = new Check("CirclesAndShipsTest");

    public static void main(String[] args) {
        circlesThereAre();
        times();
        places();
        costs();
        goneForATime();
        numbersOfShips();
        kinds();
        drops();
        busy();
        circles();
        time();
        cost();
        ship();
        fill();
        shipOf();
        circleOf();
        check.end();
    }

    private static void nothing(FasterToBeLater x) {
    }

    private static void one(FasterToBeLater x) {
        x.ship(0, 1, 5, 7);
    }

    private static void circlesThereAre() {
        check.of(Check.TERMS, "CIRCLES are 0 (lowest) to n less 1 (n 2 to 6; 4 at first)");
        check.due("at first", new FasterToBeLater().status(0), 4);
        for (int n = 2; n <= 6; n++) {
            int count = n;
            Consumer<FasterToBeLater> set = x -> x.circles(count);
            check.due("so many", Check.made(set).status(0), n);
            check.span("CIRCLE, circleOf", set, (x, c) -> x.circleOf(c, 0), 0, n - 1);
            check.span("CIRCLE, time", set, (x, c) -> x.time(c, 5), 0, n - 1);
            check.span("CIRCLE, ship", set, (x, c) -> x.ship(0, c, 0, 0), 0, n - 1);
            check.span("CIRCLE, cost", set, (x, c) -> x.cost(c, 5), 0, n - 2);
        }
        FasterToBeLater x = Check.read("circles 2;ship 0 0 0 drops 9;ship 0 1 0 drops 9");
        check.due("0 is the lowest: none below", x.can(0, 2), Check.NONE);
        check.due("1 is above it", x.can(0, 1), 1);
        check.due("none above the last", x.can(1, 1), Check.NONE);
        check.due("0 is below it", x.can(1, 2), 1);
    }

    private static void times() {
        check.of(Check.TERMS, "each with a TIME (steps once round, 2 to 20; 4 and 2 times its number at first)");
        FasterToBeLater x = Check.made(y -> y.circles(6));
        for (int c = 0; c < 6; c++) {
            check.due("TIME of " + c + " at first", x.circleOf(c, 0), 4 + 2 * c);
        }
        for (int v = 2; v <= 20; v++) {
            FasterToBeLater y = new FasterToBeLater();
            y.time(2, v);
            y.ship(0, 2, 0, 0);
            for (int t = 1; t < v; t++) {
                y.step(1);
                check.due("PLACE of TIME " + v + " behind " + t, y.shipOf(0, 2), t);
            }
            y.step(1);
            check.due("once round, TIME " + v, y.shipOf(0, 2), 0);
        }
    }

    private static void places() {
        check.of(Check.TERMS, "its PLACES are 0 to TIME less 1.");
        for (int v = 2; v <= 20; v++) {
            int time = v;
            check.span("PLACE of TIME " + v, x -> x.time(3, time), (x, place) -> x.ship(0, 3, place, 0), 0, v - 1);
        }
        check.span("PLACE of CIRCLE 0", CirclesAndShipsTest::nothing, (x, place) -> x.ship(0, 0, place, 0), 0, 3);
    }

    private static void costs() {
        check.of(Check.TERMS, "COST of a change between CIRCLE c and c and 1 (1 to 9; 1 at first).");
        FasterToBeLater x = Check.made(y -> y.circles(6));
        for (int c = 0; c < 5; c++) {
            check.due("COST of " + c + " at first", x.circleOf(c, 1), 1);
            check.due("COST of " + c, x.cost(c, 5 + c), 1);
        }
        for (int c = 0; c < 6; c++) {
            x.ship(0, c, 0, 99);
            check.due("up from " + c, x.can(c, 1), c < 5 ? 5 + c : Check.NONE);
            check.due("down from " + c, x.can(c, 2), c > 0 ? 4 + c : Check.NONE);
        }
    }

    private static void goneForATime() {
        check.of(Check.TERMS, "(A CIRCLE that isn't there for a time keeps both.)");
        FasterToBeLater x = Check.made(y -> y.circles(6));
        for (int c = 0; c < 6; c++) {
            x.time(c, 11 + c);
            x.cost(c, 4 + c);
        }
        x.circles(2);
        check.due("CIRCLE 2 is gone", x.circleOf(2, 0), Check.BAD);
        check.due("its TIME can't be set", x.time(2, 5), Check.BAD);
        check.due("nothing above CIRCLE 1", x.circleOf(1, 1), 0);
        check.due("nor a COST to it", x.cost(1, 9), Check.BAD);
        x.circles(6);
        for (int c = 0; c < 6; c++) {
            check.due("CIRCLE " + c + " kept its TIME", x.circleOf(c, 0), 11 + c);
            check.due("CIRCLE " + c + " kept its COST", x.circleOf(c, 1), c == 5 ? 0 : 4 + c);
        }
        x.circles(2);
        Check.feed(x, "circles 6");
        check.due("by a text, too: TIME", x.circleOf(5, 0), 16);
        check.due("by a text, too: COST", x.circleOf(4, 1), 8);
        x.circles(3);
        x.image();
        x.circles(6);
        x.time(5, 3);
        x.cost(4, 1);
        x.back();
        x.circles(6);
        check.due("kept by an image, too: TIME", x.circleOf(5, 0), 16);
        check.due("kept by an image, too: COST", x.circleOf(4, 1), 8);
    }

    private static void numbersOfShips() {
        check.of(Check.TERMS, "SHIPS have numbers, 0 on, 6 at most");
        FasterToBeLater x = new FasterToBeLater();
        for (int i = 0; i < 6; i++) {
            check.due("SHIP " + i + " isn't yet", x.shipOf(i, 0), Check.BAD);
            check.due("its number", x.ship(0, 3, i, 0), i);
            check.due("it is", x.shipOf(i, 2), i);
            check.due("so many", x.status(1), i + 1);
        }
        check.due("no seventh", x.ship(0, 3, 0, 0), Check.FULL);
        check.due("six", x.status(1), 6);
        check.due("the sixth is as it was", x.shipOf(5, 2), 5);
        check.due("no SHIP 6", x.shipOf(6, 0), Check.BAD);
    }

    private static void kinds() {
        check.of(Check.TERMS, "each of a KIND: 0 SHIP; 1 TUG, 2 PARCEL, 4 STATION, each under SHIP; 3 BOLT, under PARCEL; 5 TANKER, under TUG");
        // whether one of a KIND (line) may be taken for one of another (column)
        int[][] due = {
            {1, 0, 0, 0, 0, 0},
            {1, 1, 0, 0, 0, 0},
            {1, 0, 1, 0, 0, 0},
            {1, 0, 1, 1, 0, 0},
            {1, 0, 0, 0, 1, 0},
            {1, 1, 0, 0, 0, 1},
        };
        for (int kind = 0; kind < 6; kind++) {
            for (int taken = 0; taken < 6; taken++) {
                FasterToBeLater x = new FasterToBeLater();
                x.ship(kind, 0, 0, 0);
                x.show(0, 0);
                boolean isRefused = x.says(0, taken) == Check.OTHER;
                check.due("KIND " + kind + " taken for " + taken, isRefused ? 0 : 1, due[kind][taken]);
            }
        }
        check.span("KIND", CirclesAndShipsTest::nothing, (x, kind) -> x.ship(kind, 0, 0, 0), 0, 5);
    }

    private static void drops() {
        check.of(Check.TERMS, "a CIRCLE, a PLACE, DROPS (0 to 99)");
        check.span("DROPS, ship", CirclesAndShipsTest::nothing, (x, drops) -> x.ship(0, 0, 0, drops), 0, 99);
        check.span("DROPS, fill", CirclesAndShipsTest::one, (x, drops) -> x.fill(0, drops), 0, 99);
        FasterToBeLater x = Check.made(y -> y.ship(2, 3, 9, 99));
        check.due("CIRCLE", x.shipOf(0, 1), 3);
        check.due("PLACE", x.shipOf(0, 2), 9);
        check.due("DROPS", x.shipOf(0, 3), 99);
    }

    private static void busy() {
        check.of(Check.TERMS, "BUSY: how many steps it is on its way between CIRCLES still (0 at first; while it is, its CIRCLE and PLACE are those it comes to).");
        FasterToBeLater x = Check.read("time 1 9;ship 0 0 3 drops 1;ship 0 1 8 drops 1");
        check.due("at first", x.shipOf(0, 4), 0);
        x.change(0, 1);
        // 3 times 9 by 4, cut, is 6; 4 more is 10: 1 of 9
        int[] due = {2, 1, 0};
        for (int t = 0; t < 3; t++) {
            check.due("BUSY behind " + t, x.shipOf(0, 4), due[t]);
            check.due("its CIRCLE", x.shipOf(0, 1), 1);
            check.due("its PLACE", x.shipOf(0, 2), 1);
            check.due("it counts there", x.circleOf(1, 2), 3);
            check.due("and not where it left", x.circleOf(0, 2), 0);
            x.step(1);
        }
        check.due("it goes round then", x.shipOf(0, 2), 2);
        check.due("and isn't BUSY", x.shipOf(0, 4), 0);
    }

    private static void circles() {
        check.of(9, "CIRCLES become n: what they were.");
        FasterToBeLater x = new FasterToBeLater();
        int[] counts = {2, 6, 6, 3, 5, 4, 2};
        int ahead = 4;
        for (int n : counts) {
            check.due("circles(" + n + ")", x.circles(n), ahead);
            check.due("status(0)", x.status(0), n);
            ahead = n;
        }
        check.of(9, "BAD; STUCK: there are SHIPS.");
        check.span("circles n", CirclesAndShipsTest::nothing, (y, n) -> y.circles(n), 2, 6);
        check.span("circles n, with a SHIP", CirclesAndShipsTest::one, (y, n) -> y.circles(n), 2, 6);
        for (int n = 2; n <= 6; n++) {
            int count = n;
            check.refused("circles(" + n + ") with a SHIP", CirclesAndShipsTest::one, y -> y.circles(count), Check.STUCK);
        }
    }

    private static void time() {
        check.of(10, "TIME of a CIRCLE becomes v: what it was.");
        FasterToBeLater x = new FasterToBeLater();
        check.due("time(3, 2)", x.time(3, 2), 10);
        check.due("time(3, 20)", x.time(3, 20), 2);
        check.due("time(3, 20) again", x.time(3, 20), 20);
        check.due("it is", x.circleOf(3, 0), 20);
        check.due("of CIRCLE 0", x.time(0, 3), 4);
        check.due("CIRCLE 1 is as it was", x.circleOf(1, 0), 6);
        check.of(10, "BAD; STUCK: a SHIP has that CIRCLE.");
        check.span("time circle", CirclesAndShipsTest::nothing, (y, c) -> y.time(c, 5), 0, 3);
        check.span("time v", CirclesAndShipsTest::nothing, (y, v) -> y.time(1, v), 2, 20);
        check.span("time v, with a SHIP there", CirclesAndShipsTest::one, (y, v) -> y.time(1, v), 2, 20);
        check.refused("with a SHIP there", CirclesAndShipsTest::one, y -> y.time(1, 7), Check.STUCK);
        check.refused("the same TIME, with a SHIP there", CirclesAndShipsTest::one, y -> y.time(1, 6), Check.STUCK);
        check.taken("with a SHIP below", CirclesAndShipsTest::one, y -> y.time(2, 7), 8);
        check.taken("with a SHIP above", CirclesAndShipsTest::one, y -> y.time(0, 7), 4);
        Consumer<FasterToBeLater> way = y -> { one(y); y.change(0, 2); };
        check.taken("of the CIRCLE that was left", way, y -> y.time(1, 9), 6);
        check.refused("of the CIRCLE that it comes to", way, y -> y.time(0, 9), Check.STUCK);
    }

    private static void cost() {
        check.of(11, "COST between a CIRCLE and the next above becomes v: what it was.");
        FasterToBeLater x = Check.made(CirclesAndShipsTest::one);
        check.due("cost(1, 9)", x.cost(1, 9), 1);
        check.due("cost(1, 1)", x.cost(1, 1), 9);
        check.due("cost(2, 4)", x.cost(2, 4), 1);
        check.due("cost(2, 4) again", x.cost(2, 4), 4);
        check.due("it is", x.circleOf(2, 1), 4);
        check.due("COST of 0 is as it was", x.circleOf(0, 1), 1);
        check.of(11, "BAD.");
        check.span("cost circle", CirclesAndShipsTest::one, (y, c) -> y.cost(c, 5), 0, 2);
        check.span("cost circle of two", y -> y.circles(2), (y, c) -> y.cost(c, 5), 0, 0);
        check.span("cost circle of six", y -> y.circles(6), (y, c) -> y.cost(c, 5), 0, 4);
        check.span("cost v", CirclesAndShipsTest::one, (y, v) -> y.cost(0, v), 1, 9);
    }

    private static void ship() {
        check.of(12, "A SHIP: its number.");
        FasterToBeLater x = new FasterToBeLater();
        for (int i = 0; i < 6; i++) {
            check.due("SHIP " + i, x.ship(i, i % 4, i % 4 + 3, 99 - i), i);
            int[] due = {i, i % 4, i % 4 + 3, 99 - i, 0};
            for (int what = 0; what < 5; what++) {
                check.due("shipOf(" + i + ", " + what + ")", x.shipOf(i, what), due[what]);
            }
        }
        // one where there was another, that was BUSY, ahead of back
        FasterToBeLater again = new FasterToBeLater();
        again.image();
        again.ship(0, 0, 0, 9);
        again.change(0, 1);
        again.back();
        again.ship(1, 0, 0, 0);
        check.due("a new one isn't BUSY", again.shipOf(0, 4), 0);
        check.of(12, "BAD; FULL.");
        check.span("ship kind", CirclesAndShipsTest::nothing, (y, v) -> y.ship(v, 0, 0, 0), 0, 5);
        check.span("ship circle", CirclesAndShipsTest::nothing, (y, v) -> y.ship(0, v, 0, 0), 0, 3);
        check.span("ship place", CirclesAndShipsTest::nothing, (y, v) -> y.ship(0, 3, v, 0), 0, 9);
        check.span("ship drops", CirclesAndShipsTest::nothing, (y, v) -> y.ship(0, 0, 0, v), 0, 99);
        Consumer<FasterToBeLater> full = y -> y.bolts(6);
        check.refused("a seventh", full, y -> y.ship(0, 0, 0, 0), Check.FULL);
        check.span("a seventh's kind", full, (y, v) -> y.ship(v, 0, 0, 0), 0, 5);
        check.span("a seventh's circle", full, (y, v) -> y.ship(0, v, 0, 0), 0, 3);
        check.span("a seventh's place", full, (y, v) -> y.ship(0, 3, v, 0), 0, 9);
        check.span("a seventh's drops", full, (y, v) -> y.ship(0, 0, 0, v), 0, 99);
        check.taken("a sixth", y -> y.bolts(5), y -> y.ship(0, 0, 0, 0), 5);
    }

    private static void fill() {
        check.of(13, "DROPS of a SHIP become v: what they were.");
        FasterToBeLater x = Check.made(CirclesAndShipsTest::one);
        check.due("fill(0, 99)", x.fill(0, 99), 7);
        check.due("fill(0, 0)", x.fill(0, 0), 99);
        check.due("they are", x.shipOf(0, 3), 0);
        x.ship(3, 0, 0, 5);
        check.due("a BOLT's", x.fill(1, 6), 5);
        check.due("the other's are as they were", x.shipOf(0, 3), 0);
        check.of(13, "BAD.");
        check.span("fill ship", CirclesAndShipsTest::one, (y, ship) -> y.fill(ship, 0), 0, 0);
        check.span("fill ship of six", y -> y.bolts(6), (y, ship) -> y.fill(ship, 0), 0, 5);
        check.span("fill v", CirclesAndShipsTest::one, (y, v) -> y.fill(0, v), 0, 99);
    }

    private static void shipOf() {
        check.of(17, "Of a SHIP: KIND (0), CIRCLE (1), PLACE (2), DROPS (3), BUSY (4).");
        FasterToBeLater x = Check.read("ship 2 0 0; ship 5 2 7 drops 99");
        int[] due = {5, 2, 7, 99, 0};
        for (int what = 0; what < 5; what++) {
            check.due("shipOf(1, " + what + ")", x.shipOf(1, what), due[what]);
        }
        x.change(1, 2);
        // 7 times 6 by 8, cut, is 5; 3 more is 8, and that is 2 of 6
        int[] behind = {5, 1, 2, 98, 4};
        for (int what = 0; what < 5; what++) {
            check.due("on its way: shipOf(1, " + what + ")", x.shipOf(1, what), behind[what]);
        }
        check.of(17, "BAD.");
        check.span("shipOf ship", CirclesAndShipsTest::one, (y, ship) -> y.shipOf(ship, 0), 0, 0);
        check.span("shipOf ship of six", y -> y.bolts(6), (y, ship) -> y.shipOf(ship, 0), 0, 5);
        check.span("shipOf what", CirclesAndShipsTest::one, (y, what) -> y.shipOf(0, what), 0, 4);
    }

    private static void circleOf() {
        check.of(18, "Of a CIRCLE: TIME (0), COST to the next above (1; 0: none), SHIPS that have it (2, bits).");
        Consumer<FasterToBeLater> set = Check.text("cost 0 4;cost 2 7;ship 0 1 0;ship 1 0 0 drops 9;ship 2 1 5");
        check.only("TIME", set, x -> x.circleOf(1, 0), 6);
        check.only("COST", set, x -> x.circleOf(0, 1), 4);
        check.only("COST below the top", set, x -> x.circleOf(2, 1), 7);
        check.only("COST of the top", set, x -> x.circleOf(3, 1), 0);
        check.only("SHIPS on 1", set, x -> x.circleOf(1, 2), 5);
        check.only("SHIPS on 2", set, x -> x.circleOf(2, 2), 0);
        Consumer<FasterToBeLater> way = set.andThen(x -> x.change(1, 1));
        check.only("a BUSY one has the CIRCLE it comes to", way, x -> x.circleOf(1, 2), 7);
        check.only("and not the one it left", way, x -> x.circleOf(0, 2), 0);
        check.only("six", x -> { for (int i = 0; i < 6; i++) x.ship(i, 3, i, 0); }, x -> x.circleOf(3, 2), 63);
        check.of(18, "BAD.");
        check.span("circleOf circle", set, (y, c) -> y.circleOf(c, 0), 0, 3);
        check.span("circleOf circle of two, COST", y -> y.circles(2), (y, c) -> y.circleOf(c, 1), 0, 1);
        check.span("circleOf circle of six", y -> y.circles(6), (y, c) -> y.circleOf(c, 2), 0, 5);
        check.span("circleOf what", set, (y, what) -> y.circleOf(3, what), 0, 2);
    }
}
