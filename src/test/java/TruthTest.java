import java.util.function.Consumer;

/** Promises 37 to 42: step, change, hand, hurl, bolts, seed. */
public final class TruthTest {
    private static final Check check = new Check("TruthTest");

    public static void main(String[] args) {
        step();
        change();
        hand();
        hurl();
        bolts();
        seed();
        check.end();
    }

    private static void step() {
        FasterToBeLater x = Check.read("ship 3 0 0;ship 3 0 0;ship 0 0 0;ship 0 1 5;ship 2 1 5;ship 0 2 7");
        check.due("step(1): three pairs with a bolt, one without", x.step(1), 3);
        check.due("step(60)", x.step(60), 180);
        check.due("hits", x.status(3), 183);
        check.due("steps", x.status(2), 61);
        check.due("place", x.shipOf(0, 2), 1);
        check.due("another place", x.shipOf(5, 2), 4);
        check.due("with none, too", new FasterToBeLater().step(60), 0);
        FasterToBeLater y = Check.read("ship 0 0 1 drops 3;ship 3 1 2");
        y.change(0, 1);
        check.due("no hit while it is busy", y.step(1), 0);
        check.due("a hit when it has come", y.step(1), 1);
        check.due("and at each step then", y.step(2), 2);
        Consumer<FasterToBeLater> set = z -> Check.feed(z, "ship 3 0 0;ship 3 0 0;step 1");
        check.refused("step(0)", set, z -> z.step(0), Check.BAD);
        check.refused("step(61)", set, z -> z.step(61), Check.BAD);
        check.refused("step(-1)", set, z -> z.step(-1), Check.BAD);
    }

    private static void one(FasterToBeLater x, String what, int ship, int... due) {
        for (int i = 0; i < due.length; i++) {
            check.due(what + ", " + i, x.shipOf(ship, i + 1), due[i]);
        }
    }

    private static void change() {
        FasterToBeLater x = Check.read("cost 0 5;cost 1 2;time 1 7;time 2 3;ship 0 1 5 drops 9;ship 5 1 6 drops 9;ship 4 1 0 drops 9");
        check.due("down", x.change(0, 2), 5);
        // 5 times 4 by 7 is 2, and 2 is 4: 0 of 4; BUSY half of 7
        one(x, "down", 0, 0, 0, 4, 3);
        check.due("up, a tanker", x.change(1, 1), 1);
        // 6 times 3 by 7 is 2, and half of 3 is 1: 3: 0 of 3
        one(x, "up", 1, 2, 0, 8, 3);
        x.step(3);
        one(x, "down, come", 0, 0, 0, 4, 0);
        x.step(1);
        one(x, "down, one on", 0, 0, 1, 4, 0);
        check.due("from a TIME of 3", x.change(1, 2), 1);
        // 1 times 7 by 3 is 2, and 3 is 5; half of 3 is 1
        one(x, "from a TIME of 3", 1, 1, 5, 7, 1);
        Consumer<FasterToBeLater> set = y -> {
            Check.feed(y, "cost 2 9;ship 0 3 0 drops 8;ship 2 1 0 drops 9;ship 4 1 0 drops 9;ship 0 0 0 drops 9;ship 0 0 0 drops 9;ship 3 1 0");
            y.change(4, 1);
        };
        check.refused("too few drops", set, y -> y.change(0, 2), Check.STUCK);
        check.refused("none above", set, y -> y.change(0, 1), Check.STUCK);
        check.refused("a parcel", set, y -> y.change(1, 1), Check.STUCK);
        check.refused("a station", set, y -> y.change(2, 2), Check.STUCK);
        check.refused("none below", set, y -> y.change(3, 2), Check.STUCK);
        check.refused("a busy one", set, y -> y.change(4, 1), Check.STUCK);
        check.refused("change 0", set, y -> y.change(1, 0), Check.BAD);
        check.refused("change 3", set, y -> y.change(1, 3), Check.BAD);
        check.refused("no ship", set, y -> y.change(6, 1), Check.BAD);
        check.refused("ship -1", set, y -> y.change(-1, 1), Check.BAD);
    }

    private static void hand() {
        Consumer<FasterToBeLater> set = x -> Check.feed(x, "ship 5 1 2 drops 60;ship 2 1 2 drops 50;ship 1 1 2 drops 50;ship 5 1 3 drops 9;ship 5 0 3 drops 9");
        FasterToBeLater x = Check.made(set);
        check.due("hand up to 99", x.hand(0, 1, 49), 99);
        check.due("the tanker has", x.shipOf(0, 3), 11);
        check.due("the other has", x.shipOf(1, 3), 99);
        check.due("hand all", x.hand(0, 2, 11), 61);
        check.due("the tanker has none", x.shipOf(0, 3), 0);
        FasterToBeLater all = Check.read("ship 5 1 2 drops 99;ship 2 1 2");
        check.due("hand 99", all.hand(0, 1, 99), 99);
        check.due("none is left", all.shipOf(0, 3), 0);
        check.refused("one twice", set, y -> y.hand(0, 0, 1), Check.BAD);
        check.refused("none", set, y -> y.hand(5, 0, 1), Check.BAD);
        check.refused("no other", set, y -> y.hand(0, -1, 1), Check.BAD);
        check.refused("n 0, no tanker", set, y -> y.hand(1, 0, 0), Check.BAD);
        check.refused("n 100", set, y -> y.hand(0, 1, 100), Check.BAD);
        check.refused("no tanker", set, y -> y.hand(2, 1, 1), Check.STUCK);
        check.refused("they don't meet", set, y -> y.hand(3, 0, 1), Check.STUCK);
        check.refused("another circle", set, y -> y.hand(3, 4, 1), Check.STUCK);
        check.refused("it has fewer", set.andThen(y -> y.fill(1, 0)), y -> y.hand(0, 1, 61), Check.STUCK);
        check.refused("more than 99", set, y -> y.hand(0, 1, 50), Check.STUCK);
    }

    private static void hurl() {
        Consumer<FasterToBeLater> set = x -> Check.feed(x, "ship 4 0 1 drops 1;ship 2 0 1 drops 7;ship 3 0 1;ship 0 0 1 drops 9;ship 0 0 1;ship 3 0 2");
        FasterToBeLater x = Check.made(set);
        check.due("a station throws", x.hurl(0, 1, 1), 2);
        one(x, "the parcel", 1, 1, 4, 7, 2);
        one(x, "the station", 0, 0, 1, 0, 0);
        check.due("a ship throws a bolt", x.hurl(3, 2, 1), 2);
        check.due("it paid a drop", x.shipOf(3, 3), 8);
        check.due("a thrown one isn't met", x.hurl(3, 2, 1), Check.STUCK);
        x.step(2);
        one(x, "the bolt has come", 2, 1, 4, 0, 0);
        FasterToBeLater y = Check.read("cost 0 9;ship 1 1 5 drops 1;ship 3 1 5 drops 3");
        check.due("down, for 1 drop", y.hurl(0, 1, 2), 3);
        one(y, "down", 1, 0, 1, 3, 3);
        one(y, "the tug", 0, 1, 5, 0, 0);
        check.refused("one twice", set, z -> z.hurl(0, 0, 1), Check.BAD);
        check.refused("none", set, z -> z.hurl(6, 0, 1), Check.BAD);
        check.refused("no other", set, z -> z.hurl(0, 6, 1), Check.BAD);
        check.refused("change 0", set, z -> z.hurl(0, 3, 0), Check.BAD);
        check.refused("change 3", set, z -> z.hurl(0, 1, 3), Check.BAD);
        check.refused("a ship is not thrown", set, z -> z.hurl(0, 3, 1), Check.STUCK);
        check.refused("they don't meet", set, z -> z.hurl(0, 5, 1), Check.STUCK);
        check.refused("no drop", set, z -> z.hurl(4, 1, 1), Check.STUCK);
        check.refused("no such circle", set, z -> z.hurl(0, 1, 2), Check.STUCK);
        check.refused("a parcel throws none", set, z -> z.hurl(1, 2, 1), Check.STUCK);
        check.refused("a bolt throws none", set.andThen(z -> z.fill(2, 9)), z -> z.hurl(2, 1, 1), Check.STUCK);
        Consumer<FasterToBeLater> top = z -> Check.feed(z, "circles 2;ship 0 1 0 drops 9;ship 2 1 0");
        check.refused("none above", top, z -> z.hurl(0, 1, 1), Check.STUCK);
        check.only("but below", top, z -> { z.image(); int busy = z.hurl(0, 1, 2); z.back(); return busy; }, 3);
    }

    private static void bolts() {
        FasterToBeLater x = new FasterToBeLater();
        check.due("bolts(2)", x.bolts(2), 2);
        int seed = 1;
        for (int i = 0; i < 2; i++) {
            seed = seed * 1103515245 + 12345;
            int circle = (seed >>> 16) % 4;
            seed = seed * 1103515245 + 12345;
            int place = (seed >>> 16) % (4 + 2 * circle);
            check.due("kind", x.shipOf(i, 0), 3);
            one(x, "bolt " + i, i, circle, place, 0, 0);
        }
        check.due("seed", x.status(7), seed);
        // 1 becomes 1103527590, whose upper 16 bits are 16838: 2 of 4; then 2524885223: 38526: 6 of 8
        check.due("the first circle", x.shipOf(0, 1), 2);
        check.due("the first place", x.shipOf(0, 2), 6);
        check.due("bolts(6) for four", x.bolts(6), 4);
        int behind = x.status(7);
        check.due("bolts(1) for none", x.bolts(1), 0);
        check.due("no draw then", x.status(7), behind);
        check.due("none is refused", x.status(16), 0);
        check.refused("bolts(0)", y -> { }, y -> y.bolts(0), Check.BAD);
        check.refused("bolts(7)", y -> { }, y -> y.bolts(7), Check.BAD);
        check.refused("bolts(7) with no room", y -> y.bolts(6), y -> y.bolts(7), Check.BAD);
    }

    private static void seed() {
        FasterToBeLater x = new FasterToBeLater();
        check.due("seed(-7)", x.seed(-7), 1);
        check.due("seed(least)", x.seed(Integer.MIN_VALUE), -7);
        check.due("status(7)", x.status(7), Integer.MIN_VALUE);
        x.bolts(1);
        // the least int times an odd number is the least int; 12345 more has the upper bits 8000
        check.due("a draw has no sign", x.shipOf(0, 1), 32768 % 4);
    }
}
