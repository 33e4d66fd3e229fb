import java.util.function.Consumer;

/** Promises 19 to 24: can, behind, meets, judge, flown, met; and what the Terms say of STEPS. */
public final class MovesTest {
    private static final Check check = new Check("MovesTest");
    private static final int MOST = Integer.MAX_VALUE;
    private static final int LEAST = Integer.MIN_VALUE;

    public static void main(String[] args) {
        stepOfBusyOnes();
        stepOfOthers();
        changeUpAndDown();
        changeOfTugs();
        thoseThatCannot();
        halfOfTheTime();
        placeOfTheOtherTime();
        cannotBe();
        twoMeet();
        codesOfAFlight();
        othersDrift();
        can();
        behind();
        meets();
        judge();
        judgeRefusals();
        flown();
        flownRefusals();
        met();
        metEdges();
        metRefusals();
        check.end();
    }

    private static void ship(FasterToBeLater x, String what, int ship, int... due) {
        for (int i = 0; i < due.length; i++) {
            check.due(what + ", shipOf " + (i + 1), x.shipOf(ship, i + 1), due[i]);
        }
    }

    private static void stepOfBusyOnes() {
        check.of(Check.TERMS, "A STEP: of each SHIP that is BUSY, BUSY is 1 less (its PLACE stays)");
        FasterToBeLater x = Check.read("time 1 20;ship 0 1 7 drops 9;ship 1 1 7 drops 9");
        x.change(0, 1);
        x.change(1, 2);
        // 7 times 8 by 20 is 2, and 4; 7 times 4 by 20 is 1, and 2
        for (int t = 0; t <= 10; t++) {
            ship(x, "up, behind " + t, 0, 2, 6, 8, 10 - t);
            ship(x, "down, behind " + t, 1, 0, 3, 8, 10 - t);
            x.step(1);
        }
        ship(x, "up, one on", 0, 2, 7, 8, 0);
        ship(x, "down, 0 behind the last one", 1, 0, 0, 8, 0);
    }

    private static void stepOfOthers() {
        check.of(Check.TERMS, "of each other the PLACE is 1 more (0 behind the last one).");
        FasterToBeLater x = Check.read("time 0 2;time 3 20;ship 0 0 0;ship 1 1 4;ship 2 2 7;ship 3 3 18;ship 4 3 19;ship 5 0 1");
        int[][] due = {{0, 4, 7, 18, 19, 1}, {1, 5, 0, 19, 0, 0}, {0, 0, 1, 0, 1, 1}, {1, 1, 2, 1, 2, 0}};
        for (int t = 0; t < due.length; t++) {
            for (int i = 0; i < 6; i++) {
                check.due("PLACE of " + i + " behind " + t, x.shipOf(i, 2), due[t][i]);
                check.due("BUSY of " + i, x.shipOf(i, 4), 0);
            }
            x.step(1);
        }
    }

    private static void changeUpAndDown() {
        check.of(Check.TERMS, "A CHANGE (1 up, 2 down) of a SHIP that isn't BUSY: to the CIRCLE above, or below, for COST drops");
        for (int cost = 1; cost <= 9; cost++) {
            FasterToBeLater x = Check.read("cost 0 " + cost + ";cost 1 " + (10 - cost) + ";ship 0 1 0 drops 50;ship 0 1 0 drops 50");
            check.due("up", x.change(0, 1), 10 - cost);
            ship(x, "up", 0, 2, 4, 40 + cost, 3);
            check.due("down", x.change(1, 2), cost);
            ship(x, "down", 1, 0, 2, 50 - cost, 3);
        }
        Consumer<FasterToBeLater> way = Check.text("ship 0 1 0 drops 9").andThen(x -> x.change(0, 1));
        for (int t = 0; t < 3; t++) {
            int ahead = t;
            Consumer<FasterToBeLater> later = way.andThen(x -> { if (ahead > 0) x.step(ahead); });
            check.refused("BUSY, behind " + t, later, x -> x.change(0, 1), Check.STUCK);
            check.refused("BUSY, behind " + t, later, x -> x.change(0, 2), Check.STUCK);
        }
        check.taken("not BUSY any more", way.andThen(x -> x.step(3)), x -> x.change(0, 2), 1);
    }

    private static void changeOfTugs() {
        check.of(Check.TERMS, "(a TUG, and a TANKER: half of it, and 1, if COST is odd)");
        int[] half = {0, 1, 1, 2, 2, 3, 3, 4, 4, 5};
        for (int cost = 1; cost <= 9; cost++) {
            for (int kind = 1; kind <= 5; kind += 4) {
                FasterToBeLater x = Check.read("cost 0 " + cost + ";ship " + kind + " 0 0 drops 5;ship " + kind + " 1 0 drops 5");
                check.due("up for " + cost, x.change(0, 1), half[cost]);
                check.due("down for " + cost, x.change(1, 2), half[cost]);
                check.due("DROPS", x.shipOf(0, 3), 5 - half[cost]);
                check.due("DROPS", x.shipOf(1, 3), 5 - half[cost]);
            }
        }
    }

    private static void thoseThatCannot() {
        check.of(Check.TERMS, "PARCELS, BOLTS and STATIONS can't.");
        for (int kind = 0; kind <= 5; kind++) {
            boolean can = kind == 0 || kind == 1 || kind == 5;
            Consumer<FasterToBeLater> set = Check.text("ship " + kind + " 1 0 drops 99");
            for (int change = 1; change <= 2; change++) {
                int code = change;
                Consumer<FasterToBeLater> flight = set.andThen(x -> Check.put(x, 0, 0, code));
                check.only("can, KIND " + kind, set, x -> x.can(0, code), can ? 1 : Check.NONE);
                check.only("judge, KIND " + kind, flight, x -> x.judge(0, 1, 0), can ? Check.NONE : 0);
                if (can) {
                    check.taken("change, KIND " + kind, set, x -> x.change(0, code), 1);
                } else {
                    check.refused("change, KIND " + kind, set, x -> x.change(0, code), Check.STUCK);
                }
            }
        }
    }

    private static void halfOfTheTime() {
        check.of(Check.TERMS, "It is BUSY then for half of the TIME of the CIRCLE it leaves (cut, 1 at least)");
        int[] due = {0, 0, 1, 1, 2, 2, 3, 3, 4, 4, 5, 5, 6, 6, 7, 7, 8, 8, 9, 9, 10};
        for (int time = 2; time <= 20; time++) {
            FasterToBeLater x = Check.read("time 1 " + time + ";ship 0 1 0 drops 9;ship 0 1 0 drops 9");
            x.change(0, 1);
            x.change(1, 2);
            check.due("up from TIME " + time, x.shipOf(0, 4), due[time]);
            check.due("down from TIME " + time, x.shipOf(1, 4), due[time]);
        }
    }

    private static void placeOfTheOtherTime() {
        check.of(Check.TERMS, "its PLACE will be, of the other TIME: PLACE times that by its own TIME (cut), and half of that (cut), modulo that.");
        for (int own = 2; own <= 20; own++) {
            for (int other = 2; other <= 20; other++) {
                for (int place = 0; place < own; place++) {
                    FasterToBeLater x = new FasterToBeLater();
                    x.time(1, own);
                    x.time(2, other);
                    x.time(0, other);
                    x.ship(0, 1, place, 9);
                    x.ship(0, 1, place, 9);
                    x.change(0, 1);
                    x.change(1, 2);
                    int due = landing(place, own, other);
                    check.due("up from " + place + " of " + own + " to " + other, x.shipOf(0, 2), due);
                    check.due("down from " + place + " of " + own + " to " + other, x.shipOf(1, 2), due);
                }
            }
        }
    }

    /** Counted out: how often own goes into place times other, then other by twos, then rounds taken away. */
    private static int landing(int place, int own, int other) {
        int at = 0;
        for (int rest = place * other; rest >= own; rest -= own) {
            at++;
        }
        for (int rest = other; rest >= 2; rest -= 2) {
            at++;
        }
        while (at >= other) {
            at -= other;
        }
        return at;
    }

    private static void cannotBe() {
        check.of(Check.TERMS, "It can't, if there is no such CIRCLE, or DROPS are too few.");
        for (int n = 2; n <= 6; n++) {
            int top = n - 1;
            Consumer<FasterToBeLater> set = Check.text("circles " + n + ";ship 0 0 0 drops 9;ship 0 " + top + " 0 drops 9");
            check.refused("none below", set, x -> x.change(0, 2), Check.STUCK);
            check.refused("none above " + top, set, x -> x.change(1, 1), Check.STUCK);
            check.taken("one above 0", set, x -> x.change(0, 1), 1);
            check.taken("one below " + top, set, x -> x.change(1, 2), 1);
        }
        for (int cost = 1; cost <= 9; cost++) {
            Consumer<FasterToBeLater> set = Check.text("cost 0 " + cost + ";ship 0 0 0 drops " + (cost - 1) + ";ship 0 0 0 drops " + cost);
            check.refused("one drop too few of " + cost, set, x -> x.change(0, 1), Check.STUCK);
            check.taken("just enough of " + cost, set, x -> x.change(1, 1), cost);
        }
        Consumer<FasterToBeLater> tugs = Check.text("cost 0 9;ship 1 0 0 drops 4;ship 5 0 0 drops 5");
        check.refused("one too few for a TUG", tugs, x -> x.change(0, 1), Check.STUCK);
        check.taken("just enough for a TANKER", tugs, x -> x.change(1, 1), 5);
    }

    private static void twoMeet() {
        check.of(Check.TERMS, "Two MEET, if neither is BUSY and they have one CIRCLE and one PLACE.");
        Consumer<FasterToBeLater> set = Check.text("ship 0 1 4 drops 9;ship 4 1 4;ship 3 1 3;ship 2 2 4;ship 0 0 1 drops 9;ship 0 0 1 drops 9");
        check.only("one CIRCLE and one PLACE", set, x -> x.meets(0, 1), 1);
        check.only("another PLACE", set, x -> x.meets(0, 2), 0);
        check.only("another CIRCLE", set, x -> x.meets(0, 3), 0);
        // SHIPS 4 and 5 come to CIRCLE 1, PLACE 4
        Consumer<FasterToBeLater> one = set.andThen(x -> x.change(4, 1));
        check.only("the one is BUSY", one, x -> x.meets(4, 1), 0);
        check.only("the other is BUSY", one, x -> x.meets(1, 4), 0);
        check.only("they met ahead of it", set, x -> x.meets(4, 5), 1);
        check.only("and don't now", one, x -> x.meets(4, 5), 0);
        check.only("both are BUSY", one.andThen(x -> x.change(5, 1)), x -> x.meets(4, 5), 0);
        check.only("BUSY for one STEP still", one.andThen(x -> x.change(5, 1)).andThen(x -> x.step(1)), x -> x.meets(4, 5), 0);
        check.only("both have come", one.andThen(x -> x.change(5, 1)).andThen(x -> x.step(2)), x -> x.meets(4, 5), 1);
    }

    /** Two SHIPS with 3 drops, from CIRCLE 0 (TIME 4) up costs 2; SHELF 0 has the codes. */
    private static Consumer<FasterToBeLater> codes(long... codes) {
        return x -> {
            Check.feed(x, "cost 0 2;ship 0 0 1 drops 3;ship 0 1 3 drops 3;ship 1 0 1 drops 3;ship 2 0 1 drops 3");
            Check.put(x, 0, 3, codes);
        };
    }

    private static void codesOfAFlight() {
        check.of(Check.TERMS, "A FLIGHT of a SHIP: a row of codes, one for each STEP, what it does ahead of it: 0 nothing, 1, 2 a CHANGE.");
        long[] none = {-1, 3, 4, 256, 257, 1L << 32, 1L << 32 | 1, 1L << 32 | 2, Long.MIN_VALUE, Long.MAX_VALUE, Long.MIN_VALUE | 1};
        for (long code : none) {
            check.only("a code of " + code, codes(0, 0, code), x -> x.judge(0, 3, 0), 2);
        }
        check.only("nothing", codes(0), x -> x.flown(0, 1, 0, 1), 2);
        check.only("up", codes(1), x -> x.flown(0, 1, 0, 0), 1);
        check.only("ahead of the STEP: BUSY is 1 less behind it", codes(1), x -> x.flown(0, 1, 0, 3), 1);
        check.only("down", codes(2), x -> x.flown(0, 1, 1, 0), 0);
        check.only("nothing while it is BUSY", codes(1, 0, 0), x -> x.judge(0, 3, 0), Check.NONE);
        check.only("up while it is BUSY", codes(1, 1), x -> x.judge(0, 2, 2), 1);
        check.only("down while it is BUSY", codes(1, 2), x -> x.judge(0, 2, 2), 1);
        check.only("down when it has come", codes(1, 0, 2), x -> x.judge(0, 3, 2), Check.NONE);
        // what a ROW keeps of a number is its code
        check.only("257 as a byte", codes().andThen(x -> Check.put(x, 1, 0, 257)), x -> x.flown(1, 1, 0, 0), 1);
        check.only("65538 as a short", codes().andThen(x -> Check.put(x, 1, 1, 65538)), x -> x.flown(1, 1, 1, 0), 0);
        check.only("an int that is 1", codes().andThen(x -> Check.put(x, 1, 2, 1L << 32 | 1)), x -> x.flown(1, 1, 0, 0), 1);
        check.only("255 as a byte", codes().andThen(x -> Check.put(x, 1, 0, 0, 255)), x -> x.judge(1, 2, 0), 1);
        check.only("7 as a boolean", codes().andThen(x -> Check.put(x, 1, 4, 7, 0)), x -> x.flown(1, 2, 0, 0), 1);
    }

    private static void othersDrift() {
        check.of(Check.TERMS, "The others drift (no CHANGES).");
        FasterToBeLater x = Check.made(codes(0, 0, 0, 0, 0, 0, 0));
        // SHIP 1 is at PLACE 3 of 6, and a new one at 3, too
        x.ship(0, 1, 3, 9);
        check.due("along with it", x.met(0, 7, 4, 1), 0);
        x.change(4, 2);
        // 3 times 4 by 6 is 2, and 2: it comes to PLACE 0 at STEP 3; SHIP 0 from PLACE 1 is there at STEP 3
        check.due("BUSY ones come", x.met(0, 7, 0, 4), 3);
        check.due("from the other's side", x.met(0, 7, 4, 0), 3);
    }

    private static void can() {
        check.of(19, "Whether a SHIP can make a CHANGE (1 up, 2 down) now: what it costs; NONE: it can't.");
        Consumer<FasterToBeLater> set = Check.text(
            "circles 3;cost 0 5;cost 1 4;ship 0 1 0 drops 5;ship 1 1 0 drops 2;ship 5 1 0 drops 3;ship 2 1 0 drops 99;"
            + "ship 3 1 0 drops 99;ship 4 1 0 drops 99");
        int[][] due = {{4, 5}, {2, -1}, {2, 3}, {-1, -1}, {-1, -1}, {-1, -1}};
        for (int i = 0; i < 6; i++) {
            int ship = i;
            check.only("can(" + i + ", 1)", set, x -> x.can(ship, 1), due[i][0]);
            check.only("can(" + i + ", 2)", set, x -> x.can(ship, 2), due[i][1]);
        }
        check.of(19, "BAD. (NONE isn't refused.)");
        Consumer<FasterToBeLater> two = Check.text("circles 2;ship 0 0 0 drops 9;ship 0 1 0 drops 9");
        check.only("none below", two, x -> x.can(0, 2), Check.NONE);
        check.only("none above", two, x -> x.can(1, 1), Check.NONE);
        Consumer<FasterToBeLater> way = two.andThen(x -> x.change(0, 1));
        check.only("BUSY", way, x -> x.can(0, 2), Check.NONE);
        check.only("BUSY for one STEP still", way.andThen(x -> x.step(1)), x -> x.can(0, 2), Check.NONE);
        check.only("not BUSY any more", way.andThen(x -> x.step(2)), x -> x.can(0, 2), 1);
        check.span("can ship", two, (y, ship) -> y.can(ship, 1), 0, 1);
        check.span("can ship of six", set, (y, ship) -> y.can(ship, 1), 0, 5);
        check.span("can change", set, (y, change) -> y.can(0, change), 1, 2);
    }

    /** A SHIP under way from PLACE 1 of 4 to CIRCLE 1 (TIME 6): 1 and 3 is 4, BUSY 2. */
    private static void underWay(FasterToBeLater x) {
        Check.feed(x, "ship 0 0 1 drops 9;ship 4 0 3");
        x.change(0, 1);
    }

    private static void behind() {
        check.of(20, "Where a SHIP that drifts is behind t STEPS (0 to 400): CIRCLE (what 0), PLACE (1), BUSY (2).");
        int[][] due = {{0, 4, 2}, {1, 4, 1}, {2, 4, 0}, {3, 5, 0}, {4, 0, 0}, {5, 1, 0}, {399, 5, 0}, {400, 0, 0}};
        for (int[] d : due) {
            check.only("behind(0, " + d[0] + ", 0)", MovesTest::underWay, x -> x.behind(0, d[0], 0), 1);
            check.only("behind(0, " + d[0] + ", 1)", MovesTest::underWay, x -> x.behind(0, d[0], 1), d[1]);
            check.only("behind(0, " + d[0] + ", 2)", MovesTest::underWay, x -> x.behind(0, d[0], 2), d[2]);
        }
        FasterToBeLater x = Check.made(MovesTest::underWay);
        FasterToBeLater truth = Check.made(MovesTest::underWay);
        for (int t = 0; t <= 100; t++) {
            check.due("as in truth behind " + t, x.behind(0, t, 1), truth.shipOf(0, 2));
            check.due("as in truth behind " + t, x.behind(1, t, 1), truth.shipOf(1, 2));
            truth.step(1);
        }
        check.of(20, "BAD.");
        check.span("behind ship", MovesTest::underWay, (y, ship) -> y.behind(ship, 0, 0), 0, 1);
        check.span("behind t", MovesTest::underWay, (y, t) -> y.behind(0, t, 1), 0, 400);
        check.span("behind t, of CIRCLE", MovesTest::underWay, (y, t) -> y.behind(0, t, 0), 0, 400);
        check.span("behind what", MovesTest::underWay, (y, what) -> y.behind(0, 0, what), 0, 2);
    }

    private static void meets() {
        check.of(21, "Whether two MEET now: 1, 0.");
        Consumer<FasterToBeLater> set = Check.text("ship 0 1 4;ship 4 1 4;ship 3 1 3");
        check.only("they do", set, x -> x.meets(0, 1), 1);
        check.only("the other way", set, x -> x.meets(1, 0), 1);
        check.only("they don't", set, x -> x.meets(0, 2), 0);
        check.of(21, "BAD: also one twice.");
        check.span("meets ship", set, (x, ship) -> x.meets(ship, 2), 0, 1);
        check.span("meets other", set, (x, other) -> x.meets(0, other), 1, 2);
        for (int i = 0; i < 3; i++) {
            int ship = i;
            check.refused("one twice", set, x -> x.meets(ship, ship), Check.BAD);
        }
        check.refused("one that isn't, twice", set, x -> x.meets(3, 3), Check.BAD);
        check.refused("the other isn't", set, x -> x.meets(2, 3), Check.BAD);
        check.refused("the one isn't", set, x -> x.meets(3, 2), Check.BAD);
    }

    private static void judge() {
        check.of(22, "A FLIGHT of the first n elements (0 to 40) of the ROW in SHELF s, of a SHIP: the first code that can't be; NONE.");
        check.only("no codes", codes(), x -> x.judge(0, 0, 0), Check.NONE);
        check.only("0 of some", codes(9), x -> x.judge(0, 0, 0), Check.NONE);
        check.only("the first of all", codes(9), x -> x.judge(0, 1, 0), 0);
        check.only("down with too few drops", codes(1, 0, 2), x -> x.judge(0, 3, 0), 2);
        check.only("its first two", codes(1, 0, 2), x -> x.judge(0, 2, 0), Check.NONE);
        check.only("a TUG has enough", codes(1, 0, 2), x -> x.judge(0, 3, 2), Check.NONE);
        check.only("of two the first", codes(0, 2, 7), x -> x.judge(0, 3, 0), 1);
        check.only("a PARCEL may drift", codes(0, 0), x -> x.judge(0, 2, 3), Check.NONE);
        check.only("a PARCEL can't", codes(0, 1), x -> x.judge(0, 2, 3), 1);
        check.only("forty", codes(new long[40]), x -> x.judge(0, 40, 0), Check.NONE);
        long[] last = new long[40];
        last[39] = 3;
        check.only("the last of forty", codes(last), x -> x.judge(0, 40, 0), 39);
        check.only("39 of forty", codes(last), x -> x.judge(0, 39, 0), Check.NONE);
    }

    /** Forty codes in SHELF 0, two that can't all be in 3, a SHIP in 1, NOTHING in 2. */
    private static void forRefusals(FasterToBeLater x) {
        codes(new long[40]).accept(x);
        x.show(1, 0);
        Check.put(x, 3, 1, 0, 2);
        for (int s = 4; s < 8; s++) {
            x.show(s, 1);
        }
    }

    private static void judgeRefusals() {
        check.of(22, "BAD SHELF, n, SHIP; OTHER; NOTHING; BAD: fewer elements.");
        Consumer<FasterToBeLater> set = MovesTest::forRefusals;
        int[] shelves = {-1, 8, LEAST, MOST};
        for (int s : shelves) {
            check.refused("SHELF " + s, set, x -> x.judge(s, 0, 0), Check.BAD);
        }
        for (int s = 0; s <= 2; s++) {
            int shelf = s;
            check.span("judge n, SHELF " + s, set, (x, n) -> x.judge(shelf, n, 0), 0, 40);
            check.span("judge ship, SHELF " + s, set, (x, ship) -> x.judge(shelf, 1, ship), 0, 3);
        }
        check.refused("a SHIP", set, x -> x.judge(1, 1, 0), Check.OTHER);
        check.refused("a SHIP, n 40", set, x -> x.judge(1, 40, 0), Check.OTHER);
        check.refused("a SHIP, n 0", set, x -> x.judge(7, 0, 0), Check.OTHER);
        check.refused("NOTHING", set, x -> x.judge(2, 1, 0), Check.NOTHING);
        check.refused("NOTHING, n 40", set, x -> x.judge(2, 40, 0), Check.NOTHING);
        check.refused("NOTHING, n 0", set, x -> x.judge(2, 0, 0), Check.NOTHING);
        check.span("judge n of two elements", set, (x, n) -> x.judge(3, n, 0), 0, 2);
        check.span("judge n of none", set.andThen(x -> x.row(3, 0, 0)), (x, n) -> x.judge(3, n, 0), 0, 0);
    }

    private static void flown() {
        check.of(23, "Behind it: CIRCLE (what 0), PLACE (1), DROPS (2), BUSY (3) of the SHIP.");
        // from PLACE 1 of 4: 1 times 6 by 4, cut, is 1; 3 more is 4
        int[][] due = {{0, 1, 3, 0}, {1, 4, 1, 1}, {1, 4, 1, 0}, {1, 5, 1, 0}, {1, 0, 1, 0}};
        for (int n = 0; n < due.length; n++) {
            int first = n;
            for (int what = 0; what < 4; what++) {
                int asked = what;
                check.only("flown n " + n + " what " + what, codes(1, 0, 0, 0, 2), x -> x.flown(0, first, 0, asked), due[n][what]);
            }
        }
        check.only("forty, of a PARCEL", codes(new long[40]), x -> x.flown(0, 40, 3, 1), 1);
        Consumer<FasterToBeLater> way = codes(0, 0, 0).andThen(x -> x.change(0, 1));
        check.only("of a BUSY one, none", way, x -> x.flown(0, 0, 0, 3), 2);
        check.only("of a BUSY one, one", way, x -> x.flown(0, 1, 0, 3), 1);
        check.only("of a BUSY one, three", way, x -> x.flown(0, 3, 0, 1), 5);
    }

    private static void flownRefusals() {
        check.of(23, "BAD, also what; OTHER; NOTHING; BAD; STUCK: a code can't be.");
        Consumer<FasterToBeLater> set = MovesTest::forRefusals;
        int[] shelves = {-1, 8, LEAST, MOST};
        for (int s : shelves) {
            check.refused("SHELF " + s, set, x -> x.flown(s, 0, 0, 0), Check.BAD);
        }
        for (int s = 0; s <= 3; s++) {
            int shelf = s;
            check.span("flown ship, SHELF " + s, set, (x, ship) -> x.flown(shelf, 1, ship, 0), 0, 3);
            check.span("flown what, SHELF " + s, set, (x, what) -> x.flown(shelf, 2, 0, what), 0, 3);
        }
        check.span("flown n", set, (x, n) -> x.flown(0, n, 0, 0), 0, 40);
        check.span("flown n, a SHIP", set, (x, n) -> x.flown(1, n, 0, 0), 0, 40);
        check.span("flown n, NOTHING", set, (x, n) -> x.flown(2, n, 0, 0), 0, 40);
        check.refused("a SHIP", set, x -> x.flown(1, 40, 0, 0), Check.OTHER);
        check.refused("NOTHING", set, x -> x.flown(2, 40, 0, 3), Check.NOTHING);
        check.refused("NOTHING, n 0", set, x -> x.flown(2, 0, 0, 3), Check.NOTHING);
        check.refused("fewer elements, and a code that can't be", set, x -> x.flown(3, 3, 0, 0), Check.BAD);
        check.refused("a code that can't be", set, x -> x.flown(3, 2, 0, 0), Check.STUCK);
        check.only("ahead of that code", set, x -> x.flown(3, 1, 0, 1), 2);
        check.refused("the first code can't be", codes(2), x -> x.flown(0, 1, 0, 3), Check.STUCK);
    }

    private static void met() {
        check.of(24, "The first STEP (0: ahead of all) of it at which the SHIP MEETS another; NONE.");
        // behind 2 STEPS the SHIP is at CIRCLE 1, PLACE 4, and SHIP 1 at 5; one that waits 1 STEP more: 2 by 4 is 3, and 3 is 0
        check.only("it doesn't meet", codes(1, 0, 0, 0, 0), x -> x.met(0, 5, 0, 1), Check.NONE);
        check.only("it meets", codes(0, 1, 0, 0, 0), x -> x.met(0, 5, 0, 1), 3);
        check.only("just so far", codes(0, 1, 0), x -> x.met(0, 3, 0, 1), 3);
        check.only("not yet", codes(0, 1, 0), x -> x.met(0, 2, 0, 1), Check.NONE);
        check.only("ahead of all", codes(1, 0), x -> x.met(0, 2, 0, 2), 0);
        check.only("ahead of all, with no codes", codes(), x -> x.met(0, 0, 0, 2), 0);
        check.only("not ahead of all, with no codes", codes(), x -> x.met(0, 0, 0, 1), Check.NONE);
        // the other drifts with what it is BUSY: it comes at STEP 2, and the SHIP that waited there meets it
        Consumer<FasterToBeLater> busy = x -> {
            Check.feed(x, "ship 0 0 1 drops 3;ship 0 1 2");
            x.change(0, 1);
            x.row(0, 0, 5);
        };
        check.only("one that comes", busy, x -> x.met(0, 5, 1, 0), 2);
        check.only("one that waits", busy, x -> x.met(0, 5, 0, 1), 2);
    }

    private static void metEdges() {
        // up ahead of STEP 38, from PLACE 3 of 4: 3 times 6 by 4 is 4, and 3 is 7: 1 of 6 at STEP 40, where SHIP 1 is: 3 and 40 is 43
        long[] late = new long[40];
        late[38] = 1;
        check.only("at the last STEP of forty", codes(late), x -> x.met(0, 40, 0, 1), 40);
        check.only("ahead of it", codes(late), x -> x.met(0, 39, 0, 1), Check.NONE);
        check.only("of several the first", codes(new long[40]), x -> x.met(0, 40, 0, 2), 0);
    }

    private static void metRefusals() {
        check.of(24, "BAD, also the other, one twice; OTHER; NOTHING; BAD; STUCK likewise. (NONE isn't refused.)");
        Consumer<FasterToBeLater> set = MovesTest::forRefusals;
        int[] shelves = {-1, 8, LEAST, MOST};
        for (int s : shelves) {
            check.refused("SHELF " + s, set, x -> x.met(s, 0, 0, 1), Check.BAD);
        }
        for (int s = 0; s <= 3; s++) {
            int shelf = s;
            check.span("met ship, SHELF " + s, set, (x, ship) -> x.met(shelf, 2, ship, 3), 0, 2);
            check.span("met other, SHELF " + s, set, (x, other) -> x.met(shelf, 2, 0, other), 1, 3);
            check.refused("one twice, SHELF " + s, set, x -> x.met(shelf, 2, 2, 2), Check.BAD);
            check.refused("one that isn't, SHELF " + s, set, x -> x.met(shelf, 2, 4, 4), Check.BAD);
            check.refused("one that isn't, and the last, SHELF " + s, set, x -> x.met(shelf, 2, 4, 3), Check.BAD);
        }
        check.span("met n", set, (x, n) -> x.met(0, n, 0, 1), 0, 40);
        check.span("met n, a SHIP", set, (x, n) -> x.met(1, n, 0, 1), 0, 40);
        check.span("met n, NOTHING", set, (x, n) -> x.met(2, n, 0, 1), 0, 40);
        check.refused("a SHIP", set, x -> x.met(1, 40, 0, 1), Check.OTHER);
        check.refused("NOTHING", set, x -> x.met(2, 40, 0, 1), Check.NOTHING);
        check.refused("NOTHING, n 0", set, x -> x.met(2, 0, 0, 1), Check.NOTHING);
        check.refused("fewer elements, and a code that can't be", set, x -> x.met(3, 3, 0, 1), Check.BAD);
        check.refused("a code that can't be", set, x -> x.met(3, 2, 0, 1), Check.STUCK);
        check.refused("a code that can't be, behind the meeting", set, x -> x.met(3, 2, 0, 2), Check.STUCK);
        check.only("NONE isn't refused", set, x -> x.met(0, 40, 0, 1), Check.NONE);
    }
}
