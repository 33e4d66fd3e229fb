import java.util.function.Consumer;

/** Promises 37 to 42: step, change, hand, hurl, bolts, seed; and what the Terms say of what is done IN TRUTH. */
public final class TruthTest {
    private static final Check check = new Check("TruthTest");
    private static final int MOST = Integer.MAX_VALUE;
    private static final int LEAST = Integer.MIN_VALUE;

    public static void main(String[] args) {
        hits();
        stepsThatWentBy();
        step();
        changesCost();
        change();
        changeRefusals();
        handing();
        hand();
        handRefusals();
        throwing();
        hurl();
        hurlRefusals();
        boltsByDraws();
        draws();
        bolts();
        boltsRefusals();
        seed();
        check.end();
    }

    private static void ship(FasterToBeLater x, String what, int ship, int... due) {
        for (int i = 0; i < due.length; i++) {
            check.due(what + ", shipOf " + (i + 1), x.shipOf(ship, i + 1), due[i]);
        }
    }

    private static void hits() {
        check.of(Check.TERMS, "HITS: at each STEP in truth each pair that MEETS behind it, one of which is a BOLT (0 at first).");
        check.due("0 at first", new FasterToBeLater().status(3), 0);
        FasterToBeLater x = Check.read("ship 3 0 0;ship 3 0 0;ship 0 0 0;ship 0 1 5;ship 2 1 5;ship 0 2 7");
        check.due("none without a STEP", x.status(3), 0);
        check.due("three pairs with a BOLT, one without", x.step(1), 3);
        check.due("at each STEP", x.step(60), 180);
        check.due("all of them", x.status(3), 183);
        for (int kind = 0; kind < 6; kind++) {
            check.due("a BOLT and KIND " + kind, Check.read("ship 3 0 0;ship " + kind + " 0 0").step(1), 1);
            check.due("KIND " + kind + " and a BOLT", Check.read("ship " + kind + " 0 0;ship 3 0 0").step(1), 1);
            check.due("a PARCEL and KIND " + kind, Check.read("ship 2 0 0;ship " + kind + " 0 0").step(1), kind == 3 ? 1 : 0);
            check.due("another PLACE", Check.read("ship 3 0 0;ship " + kind + " 0 1").step(1), 0);
            check.due("another CIRCLE", Check.read("ship 3 0 0;ship " + kind + " 1 0").step(1), 0);
        }
        check.due("six BOLTS are fifteen pairs", Check.read("ship 3 0 0" + ";ship 3 0 0".repeat(5)).step(1), 15);
        FasterToBeLater y = Check.read("ship 0 0 1 drops 3;ship 3 1 2");
        y.change(0, 1);
        check.due("no HIT while it is BUSY", y.step(1), 0);
        check.due("a HIT behind the STEP at which it comes", y.step(1), 1);
        check.due("and at each STEP then", y.step(2), 2);
        // they MEET ahead of the STEP, and not behind it
        FasterToBeLater z = Check.read("ship 3 0 1;ship 0 0 1 drops 3");
        z.change(1, 1);
        check.due("one that has left", z.step(1), 0);
        FasterToBeLater thrown = Check.read("ship 4 0 1 drops 9;ship 3 0 1;ship 3 0 1");
        thrown.hurl(0, 1, 1);
        check.due("one that was thrown: the other two", thrown.step(1), 1);
    }

    private static void stepsThatWentBy() {
        check.of(Check.TERMS, "T: how many STEPS went by (0 at first).");
        FasterToBeLater x = new FasterToBeLater();
        check.due("at first", x.status(2), 0);
        x.step(1);
        check.due("one", x.status(2), 1);
        x.step(60);
        check.due("61", x.status(2), 61);
        x.step(61);
        x.step(0);
        check.due("refused ones don't go by", x.status(2), 61);
        Check.feed(x, "step 9;step 9");
        check.due("those of a text, too", x.status(2), 79);
        for (int i = 0; i < 400; i++) {
            x.step(60);
        }
        check.due("very many", x.status(2), 79 + 24000);
        FasterToBeLater y = Check.read("ship 0 0 0;ship 0 0 1;step 5");
        y.behind(0, 400, 1);
        y.clash(60);
        y.soonest(0, 1);
        check.due("those in thought don't", y.status(2), 5);
    }

    private static void step() {
        check.of(37, "n STEPS (1 to 60) in truth: HITS of these.");
        Consumer<FasterToBeLater> set = Check.text("ship 3 0 0;ship 3 0 0;ship 0 2 7;step 1");
        check.taken("one", set, x -> x.step(1), 1);
        check.taken("sixty", set, x -> x.step(60), 60);
        check.taken("with no SHIPS", x -> { }, x -> x.step(60), 0);
        FasterToBeLater x = Check.made(set);
        x.step(60);
        check.due("HITS in all", x.status(3), 61);
        check.due("T", x.status(2), 61);
        check.due("PLACE", x.shipOf(0, 2), 1);
        check.due("another PLACE", x.shipOf(2, 2), 4);
        check.of(37, "BAD.");
        check.span("step n", set, (y, n) -> y.step(n), 1, 60);
    }

    private static void changesCost() {
        check.of(Check.TERMS, "IN TRUTH: CHANGES cost DROPS");
        FasterToBeLater x = Check.read("cost 0 9;ship 0 0 0 drops 99;ship 5 0 0 drops 99");
        x.change(0, 1);
        check.due("a SHIP's", x.shipOf(0, 3), 90);
        x.change(1, 1);
        check.due("a TANKER's", x.shipOf(1, 3), 94);
        check.due("of all", x.status(4), 184);
        x.step(60);
        check.due("STEPS cost none", x.status(4), 184);
    }

    private static void change() {
        check.of(38, "A CHANGE (1, 2) in truth: what it cost.");
        FasterToBeLater x = Check.read("cost 0 5;cost 1 2;time 1 7;time 2 3;ship 0 1 5 drops 9;ship 5 1 6 drops 9;ship 4 1 0 drops 9");
        check.due("down", x.change(0, 2), 5);
        // 5 times 4 by 7 is 2, and 2 is 4: 0 of 4; BUSY half of 7
        ship(x, "down", 0, 0, 0, 4, 3);
        check.due("up, a TANKER", x.change(1, 1), 1);
        // 6 times 3 by 7 is 2, and half of 3 is 1: 3: 0 of 3
        ship(x, "up", 1, 2, 0, 8, 3);
        x.step(3);
        ship(x, "down, come", 0, 0, 0, 4, 0);
        x.step(1);
        ship(x, "down, one on", 0, 0, 1, 4, 0);
        check.due("from a TIME of 3", x.change(1, 2), 1);
        // 1 times 7 by 3 is 2, and 3 is 5; half of 3 is 1
        ship(x, "from a TIME of 3", 1, 1, 5, 7, 1);
        ship(x, "the STATION goes on as ever", 2, 1, 4, 9, 0);
    }

    private static void changeRefusals() {
        check.of(38, "BAD; STUCK: it can't be.");
        Consumer<FasterToBeLater> set = Check.text(
            "cost 2 9;ship 0 3 0 drops 8;ship 2 1 0 drops 9;ship 4 1 0 drops 9;ship 0 0 0 drops 9;ship 0 0 0 drops 9;ship 3 1 0 drops 9")
            .andThen(y -> y.change(4, 1));
        check.refused("too few drops", set, y -> y.change(0, 2), Check.STUCK);
        check.refused("none above", set, y -> y.change(0, 1), Check.STUCK);
        check.refused("a PARCEL", set, y -> y.change(1, 1), Check.STUCK);
        check.refused("a STATION", set, y -> y.change(2, 2), Check.STUCK);
        check.refused("none below", set, y -> y.change(3, 2), Check.STUCK);
        check.refused("a BUSY one", set, y -> y.change(4, 1), Check.STUCK);
        check.refused("a BOLT", set, y -> y.change(5, 1), Check.STUCK);
        check.span("change ship", set, (y, ship) -> y.change(ship, 1), 0, 5);
        check.span("change change, one that can", set, (y, change) -> y.change(3, change), 1, 2);
        check.span("change change, one that can't", set, (y, change) -> y.change(1, change), 1, 2);
    }

    private static void handing() {
        check.of(Check.TERMS, "a TANKER hands drops to one it MEETS (99 at most there)");
        for (int kind = 0; kind < 6; kind++) {
            Consumer<FasterToBeLater> set = Check.text("ship 5 1 2 drops 60;ship " + kind + " 1 2 drops 50");
            check.taken("to KIND " + kind + ", to 99", set, x -> x.hand(0, 1, 49), 99);
            check.refused("to KIND " + kind + ", to 100", set, x -> x.hand(0, 1, 50), Check.STUCK);
            if (kind != 5) {
                check.refused("from KIND " + kind, set, x -> x.hand(1, 0, 1), Check.STUCK);
            }
        }
        Consumer<FasterToBeLater> full = Check.text("ship 5 1 2 drops 60;ship 0 1 2 drops 99;ship 0 1 2 drops 98");
        check.refused("to a full one", full, x -> x.hand(0, 1, 1), Check.STUCK);
        check.taken("to one with room for one", full, x -> x.hand(0, 2, 1), 99);
    }

    private static void hand() {
        check.of(39, "n drops (1 to 99) go from a TANKER to another it MEETS: how many that one has.");
        FasterToBeLater x = Check.read("ship 5 1 2 drops 60;ship 2 1 2 drops 50;ship 1 1 2 drops 50");
        check.due("49", x.hand(0, 1, 49), 99);
        check.due("the TANKER has", x.shipOf(0, 3), 11);
        check.due("the other has", x.shipOf(1, 3), 99);
        check.due("all of it", x.hand(0, 2, 11), 61);
        check.due("the TANKER has none", x.shipOf(0, 3), 0);
        check.due("none is lost", x.status(4), 160);
        FasterToBeLater all = Check.read("ship 5 1 2 drops 99;ship 5 1 2");
        check.due("99", all.hand(0, 1, 99), 99);
        check.due("none is left", all.shipOf(0, 3), 0);
        check.due("and back again", all.hand(1, 0, 1), 1);
    }

    private static void handRefusals() {
        check.of(39, "BAD: also one twice; STUCK: it is no TANKER, they don't MEET, it has fewer, that one would have more than 99.");
        Consumer<FasterToBeLater> set = Check.text("ship 5 1 2 drops 98;ship 2 1 2;ship 1 1 2 drops 50;ship 5 1 3 drops 9;ship 5 0 3 drops 9");
        check.span("hand ship", set, (y, ship) -> y.hand(ship, 4, 1), 0, 3);
        check.span("hand other", set, (y, other) -> y.hand(0, other, 1), 1, 4);
        check.span("hand n", set, (y, n) -> y.hand(0, 1, n), 1, 99);
        check.span("hand n, no TANKER", set, (y, n) -> y.hand(2, 1, n), 1, 99);
        check.span("hand n, they don't MEET", set, (y, n) -> y.hand(0, 3, n), 1, 99);
        for (int i = 0; i < 6; i++) {
            int one = i;
            check.refused("one twice", set, y -> y.hand(one, one, 1), Check.BAD);
        }
        check.refused("one that isn't", set, y -> y.hand(5, 0, 1), Check.BAD);
        check.refused("another that isn't", set, y -> y.hand(0, 5, 1), Check.BAD);
        check.refused("no TANKER", set, y -> y.hand(2, 1, 1), Check.STUCK);
        check.refused("they don't MEET", set, y -> y.hand(3, 0, 1), Check.STUCK);
        check.refused("another CIRCLE", set, y -> y.hand(3, 4, 1), Check.STUCK);
        check.taken("all it has", set, y -> y.hand(0, 1, 98), 98);
        check.refused("it has one fewer", set, y -> y.hand(0, 1, 99), Check.STUCK);
        check.refused("it has none", set.andThen(y -> y.fill(0, 0)), y -> y.hand(0, 1, 1), Check.STUCK);
        check.taken("to 99", set, y -> y.hand(0, 2, 49), 99);
        check.refused("to 100", set, y -> y.hand(0, 2, 50), Check.STUCK);
        // SHIPS that left together from one PLACE are BUSY, and don't MEET
        Consumer<FasterToBeLater> left = Check.text("ship 5 0 1 drops 9;ship 0 0 1 drops 9").andThen(y -> y.change(0, 1)).andThen(y -> y.change(1, 1));
        check.refused("both BUSY", left, y -> y.hand(0, 1, 1), Check.STUCK);
        check.taken("both have come", left.andThen(y -> y.step(2)), y -> y.hand(0, 1, 1), 9);
    }

    private static void throwing() {
        check.of(Check.TERMS, "a SHIP throws a PARCEL or BOLT it MEETS up or down for 1 drop (that begins a CHANGE then).");
        for (int kind = 2; kind <= 3; kind++) {
            for (int change = 1; change <= 2; change++) {
                FasterToBeLater x = Check.read("cost 0 9;cost 1 9;ship 0 1 5 drops 9;ship " + kind + " 1 5 drops 7");
                check.due("KIND " + kind + ", " + change, x.hurl(0, 1, change), 3);
                check.due("1 drop, whatever the COST", x.shipOf(0, 3), 8);
                // 5 times 8 by 6 is 6, and 4 is 10: 2 of 8; 5 times 4 by 6 is 3, and 2 is 5: 1 of 4
                ship(x, "it is under way", 1, change == 1 ? 2 : 0, change == 1 ? 2 : 1, 7, 3);
                ship(x, "the SHIP isn't", 0, 1, 5, 8, 0);
                check.due("it is BUSY", x.status(5), 2);
                x.step(4);
                ship(x, "it has come, and gone on", 1, change == 1 ? 2 : 0, change == 1 ? 3 : 2, 7, 0);
            }
        }
    }

    private static void hurl() {
        check.of(40, "A SHIP throws a PARCEL or BOLT it MEETS (1 up, 2 down): how many STEPS that is BUSY.");
        int[] due = {0, 0, 1, 1, 2, 2, 3, 3, 4, 4, 5, 5, 6, 6, 7, 7, 8, 8, 9, 9, 10};
        for (int time = 2; time <= 20; time++) {
            Consumer<FasterToBeLater> set = Check.text("time 1 " + time + ";ship 4 1 1 drops 1;ship 2 1 1");
            check.taken("up from TIME " + time, set, x -> x.hurl(0, 1, 1), due[time]);
            check.taken("down from TIME " + time, set, x -> x.hurl(0, 1, 2), due[time]);
        }
        for (int kind = 0; kind < 6; kind++) {
            Consumer<FasterToBeLater> set = Check.text("ship " + kind + " 0 1 drops 1;ship 3 0 1 drops 1");
            if (kind == 2 || kind == 3) {
                check.refused("KIND " + kind + " throws none", set, x -> x.hurl(0, 1, 1), Check.STUCK);
            } else {
                check.taken("KIND " + kind + " throws", set, x -> x.hurl(0, 1, 1), 2);
            }
        }
    }

    private static void hurlRefusals() {
        check.of(40, "BAD: also one twice; STUCK: the other is neither, they don't MEET, no drop, no such CIRCLE, the SHIP is PARCEL or BOLT.");
        Consumer<FasterToBeLater> set = Check.text("ship 4 0 1 drops 1;ship 2 0 1 drops 7;ship 3 0 1 drops 7;ship 0 0 1 drops 9;ship 0 0 1;ship 3 0 2");
        check.span("hurl ship", set, (z, ship) -> z.hurl(ship, 5, 1), 0, 4);
        check.span("hurl other", set, (z, other) -> z.hurl(0, other, 1), 1, 5);
        check.span("hurl change", set, (z, change) -> z.hurl(0, 1, change), 1, 2);
        check.span("hurl change, of one that isn't thrown", set, (z, change) -> z.hurl(0, 3, change), 1, 2);
        for (int i = 0; i < 7; i++) {
            int one = i;
            check.refused("one twice", set, z -> z.hurl(one, one, 1), Check.BAD);
        }
        check.refused("one that isn't", set, z -> z.hurl(6, 1, 1), Check.BAD);
        check.refused("another that isn't", set, z -> z.hurl(0, 6, 1), Check.BAD);
        for (int kind = 0; kind < 6; kind++) {
            if (kind != 2 && kind != 3) {
                check.refused("the other is of KIND " + kind, Check.text("ship 0 0 1 drops 9;ship " + kind + " 0 1"), z -> z.hurl(0, 1, 1), Check.STUCK);
            }
        }
        check.refused("they don't MEET", set, z -> z.hurl(0, 5, 1), Check.STUCK);
        check.refused("they don't MEET any more", set.andThen(z -> z.hurl(3, 1, 1)), z -> z.hurl(3, 1, 1), Check.STUCK);
        check.refused("no drop", set, z -> z.hurl(4, 1, 1), Check.STUCK);
        check.taken("one drop", set, z -> z.hurl(0, 1, 1), 2);
        check.refused("none below", set, z -> z.hurl(0, 1, 2), Check.STUCK);
        check.refused("a PARCEL throws none", set, z -> z.hurl(1, 2, 1), Check.STUCK);
        check.refused("a BOLT throws none", set, z -> z.hurl(2, 1, 1), Check.STUCK);
        for (int n = 2; n <= 6; n++) {
            int top = n - 1;
            Consumer<FasterToBeLater> high = Check.text("circles " + n + ";ship 0 " + top + " 0 drops 9;ship 2 " + top + " 0");
            check.refused("none above " + top, high, z -> z.hurl(0, 1, 1), Check.STUCK);
            check.taken("but below", high, z -> z.hurl(0, 1, 2), top + 2);
        }
    }

    private static int next(int seed) {
        return seed * 1103515245 + 12345;
    }

    private static void boltsByDraws() {
        check.of(Check.TERMS, "BOLTS by draws: n BOLTS: CIRCLE a DRAW below n, PLACE a DRAW below its TIME.");
        for (int n = 2; n <= 6; n++) {
            FasterToBeLater x = new FasterToBeLater();
            x.circles(n);
            x.time(1, 19);
            check.due("bolts(6)", x.bolts(6), 6);
            int seed = 1;
            for (int i = 0; i < 6; i++) {
                seed = next(seed);
                int circle = (seed >>> 16) % n;
                seed = next(seed);
                int place = (seed >>> 16) % (circle == 1 ? 19 : 4 + 2 * circle);
                check.due("KIND", x.shipOf(i, 0), 3);
                ship(x, "BOLT " + i + " of " + n + " CIRCLES", i, circle, place, 0, 0);
            }
            check.due("SEED", x.status(7), seed);
        }
    }

    private static void draws() {
        check.of(Check.TERMS, "A DRAW below n: SEED (1 at first) becomes SEED times 1103515245, and 12345 (an int, wrapping); its upper 16 bits, no sign, modulo n.");
        FasterToBeLater x = new FasterToBeLater();
        check.due("1 at first", x.status(7), 1);
        x.bolts(1);
        // 1 becomes 1103527590, whose upper 16 bits are 16838: 2 of 4; that becomes 2524885223 less 2 to the 32nd, whose upper bits
        // are 38526 without a sign: 6 of 8
        check.due("the first CIRCLE", x.shipOf(0, 1), 2);
        check.due("the first PLACE", x.shipOf(0, 2), 6);
        check.due("it wraps", x.status(7), -1770082073);
        int[] seeds = {0, -1, 1, LEAST, MOST, 12345, -7, 1 << 16, -(1 << 16), 1 << 30, 2045738472, 1000001};
        for (int seed : seeds) {
            FasterToBeLater y = new FasterToBeLater();
            y.circles(6);
            y.seed(seed);
            y.bolts(1);
            long first = wrapped(seed * 1103515245L + 12345);
            int circle = (int) (first / 65536 % 6);
            check.due("CIRCLE of SEED " + seed, y.shipOf(0, 1), circle);
            long second = wrapped(first * 1103515245L + 12345);
            check.due("PLACE of SEED " + seed, y.shipOf(0, 2), second / 65536 % (4 + 2 * circle));
            check.due("SEED behind " + seed, y.status(7), second >= 1L << 31 ? second - (1L << 32) : second);
        }
    }

    /** Of all ints without a sign. */
    private static long wrapped(long v) {
        return Math.floorMod(v, 1L << 32);
    }

    private static void bolts() {
        check.of(41, "BOLTS by draws, n (1 to 6) until there is no room: how many.");
        for (int there = 0; there <= 6; there++) {
            for (int n = 1; n <= 6; n++) {
                FasterToBeLater x = new FasterToBeLater();
                for (int i = 0; i < there; i++) {
                    x.ship(0, 0, 0, 5);
                }
                int made = Math.min(n, 6 - there);
                check.due("bolts(" + n + ") with " + there, x.bolts(n), made);
                check.due("SHIPS then", x.status(1), there + made);
                int seed = 1;
                for (int i = 0; i < 2 * made; i++) {
                    seed = next(seed);
                }
                check.due("no more draws than BOLTS", x.status(7), seed);
                for (int what = 12; what <= 16; what++) {
                    check.due("none is refused", x.status(what), 0);
                }
            }
        }
    }

    private static void boltsRefusals() {
        check.of(41, "BAD.");
        check.span("bolts n", x -> { }, (x, n) -> x.bolts(n), 1, 6);
        check.span("bolts n, with no room", x -> x.bolts(6), (x, n) -> x.bolts(n), 1, 6);
    }

    private static void seed() {
        check.of(42, "SEED becomes v: the one ahead.");
        FasterToBeLater x = new FasterToBeLater();
        int[] seeds = {-7, LEAST, MOST, 0, -1, 1, 1};
        int ahead = 1;
        for (int v : seeds) {
            check.due("seed(" + v + ")", x.seed(v), ahead);
            check.due("status(7)", x.status(7), v);
            ahead = v;
        }
        for (int what = 12; what <= 16; what++) {
            check.due("none is refused", x.status(what), 0);
        }
        x.seed(LEAST);
        x.bolts(1);
        // the least int times an odd number is the least int; 12345 more has the upper bits 8000
        check.due("a draw has no sign", x.shipOf(0, 1), 32768 % 4);
    }
}
