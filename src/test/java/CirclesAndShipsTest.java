import java.util.function.Consumer;

/** Promises 9 to 13, 17 and 18: circles, time, cost, ship, fill, shipOf, circleOf. */
public final class CirclesAndShipsTest {
    private static final Check check = new Check("CirclesAndShipsTest");

    public static void main(String[] args) {
        circles();
        time();
        cost();
        ship();
        fill();
        shipOf();
        circleOf();
        check.end();
    }

    private static void one(FasterToBeLater x) {
        x.ship(0, 1, 5, 7);
    }

    private static void circles() {
        FasterToBeLater x = new FasterToBeLater();
        x.time(3, 17);
        x.cost(2, 6);
        check.due("circles(2)", x.circles(2), 4);
        check.due("status(0)", x.status(0), 2);
        check.due("circle 3 is gone", x.circleOf(3, 0), Check.BAD);
        check.due("nothing above circle 1", x.circleOf(1, 1), 0);
        check.due("circles(6)", x.circles(6), 2);
        check.due("circle 3 kept its time", x.circleOf(3, 0), 17);
        check.due("circle 2 kept its cost", x.circleOf(2, 1), 6);
        check.due("circles(6) again", x.circles(6), 6);
        check.refused("circles(1)", CirclesAndShipsTest::one, y -> y.circles(1), Check.BAD);
        check.refused("circles(7)", CirclesAndShipsTest::one, y -> y.circles(7), Check.BAD);
        check.refused("circles(4) with a ship", CirclesAndShipsTest::one, y -> y.circles(4), Check.STUCK);
    }

    private static void time() {
        FasterToBeLater x = new FasterToBeLater();
        check.due("time(3, 2)", x.time(3, 2), 10);
        check.due("time(3, 20)", x.time(3, 20), 2);
        check.due("it is", x.circleOf(3, 0), 20);
        one(x);
        check.due("time of another circle", x.time(0, 5), 4);
        x.change(0, 2);
        check.due("time of the circle that was left", x.time(1, 9), 6);
        check.due("time of the circle it comes to", x.time(0, 9), Check.STUCK);
        check.refused("time(-1, 5)", CirclesAndShipsTest::one, y -> y.time(-1, 5), Check.BAD);
        check.refused("time(4, 5)", CirclesAndShipsTest::one, y -> y.time(4, 5), Check.BAD);
        check.refused("time(1, 1)", CirclesAndShipsTest::one, y -> y.time(1, 1), Check.BAD);
        check.refused("time(1, 21)", CirclesAndShipsTest::one, y -> y.time(1, 21), Check.BAD);
        check.refused("time(1, 6)", CirclesAndShipsTest::one, y -> y.time(1, 6), Check.STUCK);
    }

    private static void cost() {
        FasterToBeLater x = Check.made(CirclesAndShipsTest::one);
        check.due("cost(1, 9)", x.cost(1, 9), 1);
        check.due("cost(1, 1)", x.cost(1, 1), 9);
        check.due("cost(2, 4)", x.cost(2, 4), 1);
        check.due("it is", x.circleOf(2, 1), 4);
        check.refused("cost(-1, 5)", CirclesAndShipsTest::one, y -> y.cost(-1, 5), Check.BAD);
        check.refused("cost(3, 5)", CirclesAndShipsTest::one, y -> y.cost(3, 5), Check.BAD);
        check.refused("cost(0, 0)", CirclesAndShipsTest::one, y -> y.cost(0, 0), Check.BAD);
        check.refused("cost(0, 10)", CirclesAndShipsTest::one, y -> y.cost(0, 10), Check.BAD);
    }

    private static void ship() {
        FasterToBeLater x = new FasterToBeLater();
        for (int i = 0; i < 6; i++) {
            check.due("ship " + i, x.ship(i, i % 4, i % 4 + 3, 99 - i), i);
        }
        check.due("status(1)", x.status(1), 6);
        Consumer<FasterToBeLater> full = y -> y.bolts(6);
        check.refused("a seventh", full, y -> y.ship(0, 0, 0, 0), Check.FULL);
        check.refused("a seventh that is bad", full, y -> y.ship(0, 0, 4, 0), Check.BAD);
        Consumer<FasterToBeLater> none = y -> { };
        check.refused("kind -1", none, y -> y.ship(-1, 0, 0, 0), Check.BAD);
        check.refused("kind 6", none, y -> y.ship(6, 0, 0, 0), Check.BAD);
        check.refused("circle -1", none, y -> y.ship(0, -1, 0, 0), Check.BAD);
        check.refused("circle 4", none, y -> y.ship(0, 4, 0, 0), Check.BAD);
        check.refused("place -1", none, y -> y.ship(0, 0, -1, 0), Check.BAD);
        check.refused("place of the time", none, y -> y.ship(0, 3, 10, 0), Check.BAD);
        check.refused("drops -1", none, y -> y.ship(0, 0, 0, -1), Check.BAD);
        check.refused("drops 100", none, y -> y.ship(0, 0, 0, 100), Check.BAD);
    }

    private static void fill() {
        FasterToBeLater x = Check.made(CirclesAndShipsTest::one);
        check.due("fill(0, 99)", x.fill(0, 99), 7);
        check.due("fill(0, 0)", x.fill(0, 0), 99);
        check.due("they are", x.shipOf(0, 3), 0);
        check.refused("fill(-1, 0)", CirclesAndShipsTest::one, y -> y.fill(-1, 0), Check.BAD);
        check.refused("fill(1, 0)", CirclesAndShipsTest::one, y -> y.fill(1, 0), Check.BAD);
        check.refused("fill(0, -1)", CirclesAndShipsTest::one, y -> y.fill(0, -1), Check.BAD);
        check.refused("fill(0, 100)", CirclesAndShipsTest::one, y -> y.fill(0, 100), Check.BAD);
    }

    private static void shipOf() {
        FasterToBeLater x = Check.read("ship 2 0 0; ship 5 2 7 drops 99");
        int[] due = {5, 2, 7, 99, 0};
        for (int what = 0; what < 5; what++) {
            check.due("shipOf(1, " + what + ")", x.shipOf(1, what), due[what]);
        }
        x.change(1, 2);
        // 7 times 6 by 8, cut, is 5; 3 more is 8, and that is 2 of 6
        int[] behind = {5, 1, 2, 98, 4};
        for (int what = 0; what < 5; what++) {
            check.due("on its way: shipOf(1, " + what + ")", x.shipOf(1, what), behind[what]);
        }
        check.refused("shipOf(-1, 0)", CirclesAndShipsTest::one, y -> y.shipOf(-1, 0), Check.BAD);
        check.refused("shipOf(1, 0)", CirclesAndShipsTest::one, y -> y.shipOf(1, 0), Check.BAD);
        check.refused("shipOf(0, -1)", CirclesAndShipsTest::one, y -> y.shipOf(0, -1), Check.BAD);
        check.refused("shipOf(0, 5)", CirclesAndShipsTest::one, y -> y.shipOf(0, 5), Check.BAD);
    }

    private static void circleOf() {
        FasterToBeLater x = Check.read("cost 0 4; ship 0 1 0; ship 1 0 0 drops 9; ship 2 1 5");
        check.due("time", x.circleOf(1, 0), 6);
        check.due("cost", x.circleOf(0, 1), 4);
        check.due("cost of the top", x.circleOf(3, 1), 0);
        check.due("ships on 1", x.circleOf(1, 2), 5);
        check.due("ships on 2", x.circleOf(2, 2), 0);
        x.change(1, 1);
        check.due("a busy one has the circle it comes to", x.circleOf(1, 2), 7);
        check.due("and not the one it left", x.circleOf(0, 2), 0);
        check.refused("circleOf(-1, 0)", CirclesAndShipsTest::one, y -> y.circleOf(-1, 0), Check.BAD);
        check.refused("circleOf(4, 0)", CirclesAndShipsTest::one, y -> y.circleOf(4, 0), Check.BAD);
        check.refused("circleOf(0, -1)", CirclesAndShipsTest::one, y -> y.circleOf(0, -1), Check.BAD);
        check.refused("circleOf(0, 3)", CirclesAndShipsTest::one, y -> y.circleOf(0, 3), Check.BAD);
    }
}
