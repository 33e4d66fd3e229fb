import java.util.function.Consumer;

/** Promises 1 to 8: a new object, row, set, copy, element, holds, show, says; and what the Terms say of SHELVES. */
public final class ShelvesTest {
    private static final Check check = new Check("ShelvesTest");
    private static final int MOST = Integer.MAX_VALUE;
    private static final int LEAST = Integer.MIN_VALUE;

    public static void main(String[] args) {
        newObject();
        shelves();
        rowsOfSorts();
        lowestBits();
        row();
        set();
        copy();
        copyEdges();
        copyRefusals();
        element();
        holds();
        show();
        says();
        saysOfBusyOnes();
        saysEdges();
        saysRefusals();
        check.end();
    }

    private static void nothing(FasterToBeLater x) {
    }

    /** SHELF 3 holds SHIP 1 of two. */
    private static void shipShown(FasterToBeLater x) {
        x.ship(0, 1, 2, 7);
        x.ship(1, 1, 2, 8);
        x.show(3, 1);
    }

    private static void newObject() {
        check.of(1, "4 CIRCLES, no SHIPS; SHELVES hold NOTHING; THE TAPE is empty.");
        FasterToBeLater x = new FasterToBeLater();
        int[] due = {4, 0, 0, 0, 0, 0, 0, 1, 0};
        for (int what = 0; what < due.length; what++) {
            check.due("new: status(" + what + ")", x.status(what), due[what]);
        }
        for (int what = 12; what <= 16; what++) {
            check.due("new: status(" + what + ")", x.status(what), 0);
        }
        for (int s = 0; s < 8; s++) {
            check.due("new: holds(" + s + ")", x.holds(s), Check.NONE);
        }
        check.due("new: wipe()", x.wipe(), 0);
        check.refused("new: no SHIP 0", ShelvesTest::nothing, y -> y.shipOf(0, 0), Check.BAD);
        check.refused("new: no CIRCLE 4", ShelvesTest::nothing, y -> y.circleOf(4, 0), Check.BAD);
        check.refused("new: nothing was kept", ShelvesTest::nothing, y -> y.back(), Check.STUCK);
        check.due("new: CIRCLE 3", x.circleOf(3, 0), 10);
        x.circles(2);
        x.row(0, 0, 1);
        x.feed(1);
        x.seed(9);
        check.same("another object is apart", Check.told(new FasterToBeLater()), Check.told(Check.made(ShelvesTest::nothing)));
        check.due("another object's CIRCLES", new FasterToBeLater().status(0), 4);
    }

    private static void shelves() {
        check.of(Check.TERMS, "SHELVES 0 to 7 hold NOTHING (at first), a ROW, or a SHIP.");
        check.span("the SHELF of a row", ShelvesTest::shipShown, (x, s) -> x.row(s, 0, 1), 0, 7);
        check.span("the SHELF of a SHIP", ShelvesTest::shipShown, (x, s) -> x.show(s, 0), 0, 7);
        for (int s = 0; s < 8; s++) {
            FasterToBeLater x = Check.made(ShelvesTest::shipShown);
            x.show(3, Check.NONE);
            check.due("NOTHING at first", x.holds(s), Check.NONE);
            x.row(s, 2, 3);
            check.due("a ROW", x.holds(s), 2);
            x.show(s, 1);
            check.due("a SHIP", x.holds(s), 11);
            check.due("and no ROW then", x.element(s, 0), 0);
            check.due("only that one holds something", x.status(8), 1);
        }
    }

    private static void rowsOfSorts() {
        check.of(Check.TERMS, "A ROW has a SORT (0 bytes, 1 shorts, 2 ints, 3 longs, 4 booleans) and 0 to 40 elements (0, or not so, at first)");
        for (int sort = 0; sort <= 4; sort++) {
            int of = sort;
            FasterToBeLater x = Check.made(y -> y.row(5, of, 40));
            for (int i = 0; i < 40; i++) {
                check.due("element " + i + " at first", x.element(5, i), 0);
                check.due("element " + i + " is there", x.set(5, i, 1), 1);
            }
            check.refused("element 40 of SORT " + sort, y -> y.row(5, of, 40), y -> y.set(5, 40, 1), Check.BAD);
            check.refused("element 0 of an empty ROW", y -> y.row(5, of, 0), y -> y.set(5, 0, 1), Check.BAD);
            x.row(5, sort, 40);
            for (int i = 0; i < 40; i++) {
                check.due("element " + i + " of a ROW over a full one", x.element(5, i), 0);
            }
        }
    }

    private static void lowestBits() {
        check.of(Check.TERMS, "what is put in keeps its lowest bits (of booleans: whether it is not 0)");
        long[][] due = {
            // what is put in, and what is kept as bytes, shorts, ints, longs, booleans
            {0, 0, 0, 0, 0, 0},
            {1, 1, 1, 1, 1, 1},
            {-1, -1, -1, -1, -1, 1},
            {127, 127, 127, 127, 127, 1},
            {128, -128, 128, 128, 128, 1},
            {255, -1, 255, 255, 255, 1},
            {256, 0, 256, 256, 256, 1},
            {-128, -128, -128, -128, -128, 1},
            {-129, 127, -129, -129, -129, 1},
            {32767, -1, 32767, 32767, 32767, 1},
            {32768, 0, -32768, 32768, 32768, 1},
            {65536, 0, 0, 65536, 65536, 1},
            {-32769, -1, 32767, -32769, -32769, 1},
            {2147483647L, -1, -1, 2147483647L, 2147483647L, 1},
            {2147483648L, 0, 0, -2147483648L, 2147483648L, 1},
            {4294967296L, 0, 0, 0, 4294967296L, 1},
            {-2147483649L, -1, -1, 2147483647L, -2147483649L, 1},
            {Long.MAX_VALUE, -1, -1, -1, Long.MAX_VALUE, 1},
            {Long.MIN_VALUE, 0, 0, 0, Long.MIN_VALUE, 1},
        };
        for (long[] d : due) {
            for (int sort = 0; sort <= 4; sort++) {
                FasterToBeLater x = new FasterToBeLater();
                x.row(0, sort, 3);
                check.due("set", x.set(0, 1, d[0]), 1);
                check.due(d[0] + " of SORT " + sort, x.element(0, 1), d[1 + sort]);
                check.due("the one ahead", x.element(0, 0), 0);
                check.due("the one behind", x.element(0, 2), 0);
            }
        }
        check.of(Check.TERMS, "told they are numbers (1, 0).");
        FasterToBeLater x = Check.made(y -> y.row(0, 4, 2));
        x.set(0, 0, -9);
        check.due("true", x.element(0, 0), 1);
        check.due("false", x.element(0, 1), 0);
        x.set(0, 0, 0);
        check.due("false again", x.element(0, 0), 0);
    }

    private static void row() {
        check.of(2, "SHELF s holds a new ROW: 1.");
        for (int sort = 0; sort <= 4; sort++) {
            int of = sort;
            check.taken("row(7, " + sort + ", 40)", ShelvesTest::shipShown, x -> x.row(7, of, 40), 1);
            check.taken("row over a SHIP", ShelvesTest::shipShown, x -> x.row(3, of, 0), 1);
        }
        FasterToBeLater x = Check.made(y -> y.row(7, 3, 0));
        check.due("a ROW of none holds something", x.status(8), 1);
        check.due("its SORT", x.holds(7), 3);
        check.of(2, "BAD.");
        Consumer<FasterToBeLater> set = y -> Check.put(y, 0, 2, 5, 6, 7);
        check.span("row s", set, (y, s) -> y.row(s, 1, 1), 0, 7);
        check.span("row sort", set, (y, sort) -> y.row(0, sort, 1), 0, 4);
        check.span("row n", set, (y, n) -> y.row(0, 1, n), 0, 40);
    }

    private static void set() {
        check.of(3, "Element i of the ROW in SHELF s becomes v: 1.");
        FasterToBeLater x = Check.made(y -> Check.put(y, 4, 3, 5, 6, 7));
        check.due("the first", x.set(4, 0, 50), 1);
        check.due("the last", x.set(4, 2, 70), 1);
        elements(x, 4, 50, 6, 70, 0);
        check.of(3, "BAD SHELF; OTHER; NOTHING; BAD i.");
        Consumer<FasterToBeLater> set = y -> {
            shipShown(y);
            for (int s = 0; s < 8; s++) {
                if (s != 3 && s != 4) {
                    Check.put(y, s, 0, 1, 2);
                }
            }
        };
        check.refused("SHELF -1, i bad", set, y -> y.set(-1, 9, 1), Check.BAD);
        check.refused("SHELF 8", set, y -> y.set(8, 0, 1), Check.BAD);
        check.refused("the least SHELF", set, y -> y.set(LEAST, 0, 1), Check.BAD);
        check.refused("the greatest SHELF", set, y -> y.set(MOST, 0, 1), Check.BAD);
        check.refused("a SHIP", set, y -> y.set(3, 0, 1), Check.OTHER);
        check.refused("a SHIP, i bad", set, y -> y.set(3, -1, 1), Check.OTHER);
        check.refused("NOTHING", set, y -> y.set(4, 0, 1), Check.NOTHING);
        check.refused("NOTHING, i bad", set, y -> y.set(4, 40, 1), Check.NOTHING);
        check.span("set i", set, (y, i) -> y.set(0, i, 9), 0, 1);
        check.refused("an empty ROW, i 0", y -> y.row(0, 0, 0), y -> y.set(0, 0, 1), Check.BAD);
    }

    private static void elements(FasterToBeLater x, int s, long... due) {
        for (int i = 0; i < due.length; i++) {
            check.due("element(" + s + ", " + i + ")", x.element(s, i), due[i]);
        }
    }

    private static void copy() {
        check.of(4, "n elements of the ROW in SHELF p from place i on come to places j on of that in q (as they were): n.");
        FasterToBeLater x = new FasterToBeLater();
        Check.put(x, 0, 1, 10, 11, 12, 13, 14);
        Check.put(x, 1, 1, 20, 21, 22);
        check.due("to another", x.copy(0, 1, 3, 1, 2), 2);
        elements(x, 1, 20, 13, 14, 0);
        elements(x, 0, 10, 11, 12, 13, 14, 0);
        check.due("forward over itself", x.copy(0, 0, 0, 1, 4), 4);
        elements(x, 0, 10, 10, 11, 12, 13, 0);
        check.due("backward over itself", x.copy(0, 0, 1, 0, 4), 4);
        elements(x, 0, 10, 11, 12, 13, 13, 0);
        check.due("to where it is", x.copy(0, 0, 2, 2, 3), 3);
        elements(x, 0, 10, 11, 12, 13, 13, 0);
        long[][] kept = {{-128, 127}, {-32768, 32767}, {LEAST, MOST}, {Long.MIN_VALUE, Long.MAX_VALUE}, {1, 0}};
        for (int sort = 0; sort <= 4; sort++) {
            FasterToBeLater y = new FasterToBeLater();
            Check.put(y, 6, sort, kept[sort]);
            Check.put(y, 7, sort, 1, 1, 1);
            check.due("of SORT " + sort, y.copy(6, 7, 0, 1, 2), 2);
            elements(y, 7, 1, kept[sort][0], kept[sort][1]);
        }
    }

    private static void copyEdges() {
        Consumer<FasterToBeLater> set = x -> {
            Check.put(x, 0, 1, 10, 11, 12);
            Check.put(x, 1, 1, 20, 21);
            x.row(2, 1, 0);
        };
        check.taken("the whole of the shorter", set, x -> x.copy(1, 0, 0, 1, 2), 2);
        check.taken("the last one to the last one", set, x -> x.copy(0, 1, 2, 1, 1), 1);
        check.only("none", set, x -> x.copy(0, 1, 0, 0, 0), 0);
        check.only("none from behind the last", set, x -> x.copy(0, 1, 3, 2, 0), 0);
        check.only("none of an empty ROW", set, x -> x.copy(2, 2, 0, 0, 0), 0);
        check.only("none to an empty ROW", set, x -> x.copy(0, 2, 1, 0, 0), 0);
        FasterToBeLater full = new FasterToBeLater();
        long[] forty = new long[40];
        for (int i = 0; i < 40; i++) {
            forty[i] = 100 + i;
        }
        Check.put(full, 0, 2, forty);
        full.row(1, 2, 40);
        check.due("forty", full.copy(0, 1, 0, 0, 40), 40);
        elements(full, 1, forty);
        check.due("39 on by one", full.copy(1, 1, 0, 1, 39), 39);
        check.due("the first stays", full.element(1, 0), 100);
        check.due("the last was the one ahead", full.element(1, 39), 138);
    }

    private static void copyRefusals() {
        check.of(4, "BAD SHELVES; OTHER (also ROWS of two SORTS, if both hold something); NOTHING; BAD the others.");
        Consumer<FasterToBeLater> set = x -> {
            shipShown(x);
            Check.put(x, 0, 1, 10, 11, 12);
            Check.put(x, 1, 1, 20, 21);
            Check.put(x, 2, 2, 30, 31);
        };
        int[] shelves = {-1, 8, LEAST, MOST};
        for (int s : shelves) {
            check.refused("from SHELF " + s + " to a SHIP", set, x -> x.copy(s, 3, 0, 0, 1), Check.BAD);
            check.refused("to SHELF " + s + " from a SHIP", set, x -> x.copy(3, s, 0, 0, 1), Check.BAD);
            check.refused("from SHELF " + s + " to NOTHING", set, x -> x.copy(s, 4, 0, 0, 1), Check.BAD);
            check.refused("to SHELF " + s + " from NOTHING", set, x -> x.copy(4, s, 0, 0, 1), Check.BAD);
            check.refused("from SHELF " + s, set, x -> x.copy(s, 0, 0, 0, 1), Check.BAD);
            check.refused("to SHELF " + s, set, x -> x.copy(0, s, 0, 0, 1), Check.BAD);
        }
        check.refused("two SORTS", set, x -> x.copy(0, 2, 0, 0, 1), Check.OTHER);
        check.refused("two SORTS, n 0", set, x -> x.copy(0, 2, 0, 0, 0), Check.OTHER);
        check.refused("two SORTS, i bad", set, x -> x.copy(2, 0, -1, 0, 1), Check.OTHER);
        check.refused("two SORTS, n bad", set, x -> x.copy(0, 2, 0, 0, 41), Check.OTHER);
        check.refused("a SHIP to NOTHING", set, x -> x.copy(3, 4, 0, 0, 1), Check.OTHER);
        check.refused("NOTHING to a SHIP", set, x -> x.copy(4, 3, 0, 0, 1), Check.OTHER);
        check.refused("a SHIP to a ROW", set, x -> x.copy(3, 0, 0, 0, 1), Check.OTHER);
        check.refused("a ROW to a SHIP, j bad", set, x -> x.copy(0, 3, 0, -1, 1), Check.OTHER);
        check.refused("a SHIP to itself", set, x -> x.copy(3, 3, 0, 0, 0), Check.OTHER);
        check.refused("NOTHING, n bad", set, x -> x.copy(4, 0, 0, 0, -1), Check.NOTHING);
        check.refused("to NOTHING, i bad", set, x -> x.copy(2, 4, 9, 0, 1), Check.NOTHING);
        check.refused("NOTHING to NOTHING", set, x -> x.copy(4, 5, 0, 0, 1), Check.NOTHING);
        check.refused("NOTHING to itself, n 0", set, x -> x.copy(4, 4, 0, 0, 0), Check.NOTHING);
        check.span("copy i, n 1", set, (x, i) -> x.copy(0, 1, i, 0, 1), 0, 2);
        check.span("copy j, n 1", set, (x, j) -> x.copy(0, 1, 0, j, 1), 0, 1);
        check.span("copy i, n 0", set, (x, i) -> x.copy(0, 1, i, 0, 0), 0, 3);
        check.span("copy j, n 0", set, (x, j) -> x.copy(0, 1, 0, j, 0), 0, 2);
        check.span("copy n, the first is longer", set, (x, n) -> x.copy(0, 1, 0, 0, n), 0, 2);
        check.span("copy n, the second is longer", set, (x, n) -> x.copy(1, 0, 0, 0, n), 0, 2);
        check.span("copy n, i 2", set, (x, n) -> x.copy(0, 0, 2, 0, n), 0, 1);
        check.span("copy n, j 2", set, (x, n) -> x.copy(0, 0, 0, 2, n), 0, 1);
        check.refused("i and n past all ints", set, x -> x.copy(0, 1, MOST, 0, MOST), Check.BAD);
        check.refused("i 1 and n past all ints", set, x -> x.copy(0, 1, 1, 0, MOST), Check.BAD);
        check.refused("j and n past all ints", set, x -> x.copy(0, 1, 0, MOST, MOST), Check.BAD);
    }

    private static void element() {
        check.of(5, "Element i of the ROW; 0: none, no ROW (nothing is refused).");
        Consumer<FasterToBeLater> set = y -> {
            shipShown(y);
            Check.put(y, 0, 3, Long.MIN_VALUE, Long.MAX_VALUE);
            Check.put(y, 7, 3, 9);
        };
        check.only("the first", set, y -> y.element(0, 0), Long.MIN_VALUE);
        check.only("the last", set, y -> y.element(0, 1), Long.MAX_VALUE);
        check.only("on the last SHELF", set, y -> y.element(7, 0), 9);
        check.only("element 40 of forty", y -> y.row(0, 0, 40), y -> y.element(0, 40), 0);
        int[] outside = {-1, 2, 39, 40, MOST, LEAST};
        for (int i : outside) {
            check.only("element " + i, set, y -> y.element(0, i), 0);
        }
        check.only("of a SHIP", set, y -> y.element(3, 0), 0);
        check.only("of NOTHING", set, y -> y.element(1, 0), 0);
        int[] shelves = {-1, 8, LEAST, MOST};
        for (int s : shelves) {
            check.only("on SHELF " + s, set, y -> y.element(s, 0), 0);
        }
        // a shorter ROW doesn't tell what the longer one ahead had
        check.only("what was there", set.andThen(y -> y.row(0, 3, 1)), y -> y.element(0, 1), 0);
        check.only("what was there ahead of a SHIP", set.andThen(y -> y.show(0, 0)), y -> y.element(0, 0), 0);
    }

    private static void holds() {
        check.of(6, "What SHELF s holds: NONE NOTHING, no SHELF; 0 to 4 a ROW by its SORT; 10 and the number of a SHIP.");
        for (int sort = 0; sort <= 4; sort++) {
            int of = sort;
            check.only("SORT " + sort, y -> y.row(7 - of, of, 0), y -> y.holds(7 - of), sort);
        }
        for (int ship = 0; ship < 6; ship++) {
            int shown = ship;
            check.only("SHIP " + ship, y -> { y.bolts(6); y.show(shown, shown); }, y -> y.holds(shown), 10 + ship);
        }
        int[] none = {0, 7, -1, 8, LEAST, MOST};
        for (int s : none) {
            check.only("holds(" + s + ")", ShelvesTest::shipShown, y -> y.holds(s), Check.NONE);
        }
    }

    private static void show() {
        check.of(7, "SHELF s holds a SHIP, or NOTHING (ship NONE): 1.");
        FasterToBeLater x = Check.made(ShelvesTest::shipShown);
        check.due("the first SHIP", x.show(0, 0), 1);
        check.due("it is held", x.holds(0), 10);
        check.due("one SHIP twice", x.show(7, 0), 1);
        check.due("three hold something", x.status(8), 3);
        check.due("another over it", x.show(0, 1), 1);
        check.due("that is held", x.holds(0), 11);
        check.due("NOTHING over a SHIP", x.show(0, Check.NONE), 1);
        check.due("NOTHING is held", x.holds(0), Check.NONE);
        check.due("NOTHING over NOTHING", x.show(0, Check.NONE), 1);
        check.due("NOTHING in the last SHELF", x.show(7, Check.NONE), 1);
        x.row(5, 4, 1);
        check.due("NOTHING over a ROW", x.show(5, Check.NONE), 1);
        check.due("NOTHING is held there, too", x.holds(5), Check.NONE);
        check.due("one holds something", x.status(8), 1);
        check.taken("NOTHING with no SHIPS", ShelvesTest::nothing, y -> y.show(0, Check.NONE), 1);
        check.of(7, "BAD.");
        check.span("show s", ShelvesTest::shipShown, (y, s) -> y.show(s, 0), 0, 7);
        check.span("show s, NOTHING", ShelvesTest::shipShown, (y, s) -> y.show(s, Check.NONE), 0, 7);
        check.span("show ship", ShelvesTest::shipShown, (y, ship) -> y.show(3, ship), -1, 1);
        check.span("show ship, of none", ShelvesTest::nothing, (y, ship) -> y.show(3, ship), -1, -1);
        check.span("show ship, of six", y -> y.bolts(6), (y, ship) -> y.show(3, ship), -1, 5);
    }

    /** One of each KIND on CIRCLE 1 (TIME 6), its COST up 5; those of even number at PLACE 2. */
    private static void fleet(FasterToBeLater x) {
        x.cost(1, 5);
        for (int kind = 0; kind < 6; kind++) {
            x.ship(kind, 1, kind % 2 == 0 ? 2 : 3, 10 * kind);
            x.show(kind, kind);
        }
    }

    private static void says() {
        check.of(8, "What the SHIP in SHELF s, taken for one of a KIND, says: SHIP its DROPS");
        int[][] due = {
            {0, -3, -3, -3, -3, -3},
            {10, 3, -3, -3, -3, -3},
            {20, -3, 2, -3, -3, -3},
            {30, -3, 2, 5, -3, -3},
            {40, -3, -3, -3, 5, -3},
            {50, 3, -3, -3, -3, 5 * 99 - 100},
        };
        for (int s = 0; s < 6; s++) {
            for (int kind = 0; kind < 6; kind++) {
                int shelf = s;
                int of = kind;
                if (due[s][kind] >= 0) {
                    check.only("says(" + s + ", " + kind + ")", ShelvesTest::fleet, x -> x.says(shelf, of), due[s][kind]);
                } else {
                    check.refused("says(" + s + ", " + kind + ")", ShelvesTest::fleet, x -> x.says(shelf, of), due[s][kind]);
                }
            }
        }
    }

    private static void saysOfBusyOnes() {
        check.of(8, "BOLT how many SHIPS there are on its CIRCLE besides (not BUSY)");
        FasterToBeLater x = Check.made(ShelvesTest::fleet);
        x.change(1, 2);
        check.due("a TUG on its way tells the COST from where it comes to", x.says(1, 1), 1);
        check.due("a BUSY one isn't met", x.says(3, 2), 1);
        check.due("a BUSY one isn't counted on the CIRCLE it left", x.says(3, 3), 4);
        x.hurl(5, 3, 2);
        check.due("a BUSY BOLT meets none", x.says(3, 2), 0);
        check.due("the TUG that is BUSY, too, isn't counted where both come to", x.says(3, 3), 0);
        x.step(3);
        check.due("when both have come", x.says(3, 3), 1);
        check.due("they MEET", x.says(3, 2), 1);
    }

    private static void saysEdges() {
        check.of(8, "TUG what a CHANGE up costs it (0: none above)");
        Consumer<FasterToBeLater> top = Check.text("circles 2; ship 1 1 0 drops 9; ship 5 0 0")
            .andThen(x -> x.show(0, 0)).andThen(x -> x.show(1, 1));
        check.only("none above", top, x -> x.says(0, 1), 0);
        check.only("a TANKER with no drops", top, x -> x.says(1, 1), 1);
        int[] half = {0, 1, 1, 2, 2, 3, 3, 4, 4, 5};
        for (int cost = 1; cost <= 9; cost++) {
            int of = cost;
            check.only("COST " + cost, x -> { x.cost(2, of); x.ship(1, 2, 0, 0); x.show(0, 0); }, x -> x.says(0, 1), half[cost]);
        }
        check.of(8, "TANKER how many drops there is room for in all others together.");
        check.only("in one other", top, x -> x.says(1, 5), 90);
        check.only("with no other", x -> { x.ship(5, 0, 0, 7); x.show(0, 0); }, x -> x.says(0, 5), 0);
        Consumer<FasterToBeLater> full = x -> {
            for (int i = 0; i < 6; i++) {
                x.ship(i == 5 ? 5 : 0, 0, 0, i == 5 ? 0 : 99);
            }
            x.show(0, 5);
        };
        check.only("in five that are full", full, x -> x.says(0, 5), 0);
        Consumer<FasterToBeLater> empty = full.andThen(x -> { for (int i = 0; i < 5; i++) x.fill(i, 0); });
        check.only("in five that are empty", empty, x -> x.says(0, 5), 495);
        check.of(8, "PARCEL how many it MEETS now");
        Consumer<FasterToBeLater> parcels = x -> { for (int i = 0; i < 6; i++) x.ship(2 + i % 2, 0, 3, 0); x.show(0, 0); x.show(1, 1); };
        check.only("five others", parcels, x -> x.says(0, 2), 5);
        check.only("alone", x -> { x.ship(2, 0, 0, 0); x.show(0, 0); }, x -> x.says(0, 2), 0);
        check.of(8, "BOLT how many SHIPS there are on its CIRCLE besides (not BUSY)");
        check.only("five besides", parcels, x -> x.says(1, 3), 5);
        check.only("none besides", x -> { x.ship(3, 0, 0, 0); x.ship(0, 1, 0, 0); x.show(0, 0); }, x -> x.says(0, 3), 0);
        check.of(8, "STATION the greatest PLACE of its CIRCLE");
        check.only("of TIME 2", x -> { x.time(0, 2); x.ship(4, 0, 0, 0); x.show(0, 0); }, x -> x.says(0, 4), 1);
        check.only("of TIME 20", x -> { x.time(0, 20); x.ship(4, 0, 0, 0); x.show(0, 0); }, x -> x.says(0, 4), 19);
    }

    private static void saysRefusals() {
        check.of(8, "BAD SHELF, KIND; OTHER (also if it is of no such KIND nor of one under it); NOTHING.");
        Consumer<FasterToBeLater> set = y -> {
            shipShown(y);
            for (int s = 4; s < 8; s++) {
                y.show(s, 0);
            }
            y.row(0, 0, 1);
        };
        check.refused("SHELF -1", set, y -> y.says(-1, 0), Check.BAD);
        check.refused("SHELF 8", set, y -> y.says(8, 0), Check.BAD);
        check.refused("the least SHELF", set, y -> y.says(LEAST, 0), Check.BAD);
        check.refused("the greatest SHELF", set, y -> y.says(MOST, 0), Check.BAD);
        check.span("says kind, of a SHIP", set, (y, kind) -> y.says(3, kind), 0, 5);
        check.span("says kind, of a ROW", set, (y, kind) -> y.says(0, kind), 0, 5);
        check.span("says kind, of NOTHING", set, (y, kind) -> y.says(1, kind), 0, 5);
        for (int kind = 0; kind < 6; kind++) {
            int of = kind;
            check.refused("a ROW, KIND " + kind, set, y -> y.says(0, of), Check.OTHER);
            check.refused("NOTHING, KIND " + kind, set, y -> y.says(1, of), Check.NOTHING);
        }
        check.refused("a SHIP for a TUG", set, y -> y.says(7, 1), Check.OTHER);
        check.refused("a TUG for a TANKER", set, y -> y.says(3, 5), Check.OTHER);
    }
}
