/** Promises 1 to 8: a new object, row, set, copy, element, holds, show, says. */
public final class ShelvesTest {
    private static final Check check = new Check("ShelvesTest");

    public static void main(String[] args) {
        newObject();
        row();
        set();
        copy();
        element();
        holdsAndShow();
        says();
        saysRefusals();
        check.end();
    }

    private static void newObject() {
        FasterToBeLater x = new FasterToBeLater();
        int[] due = {4, 0, 0, 0, 0, 0, 0, 1, 0};
        for (int what = 0; what < due.length; what++) {
            check.due("new: status(" + what + ")", x.status(what), due[what]);
        }
        for (int what = 12; what <= 16; what++) {
            check.due("new: status(" + what + ")", x.status(what), 0);
        }
        for (int s = 0; s < 8; s++) {
            check.due("new: holds(" + s + ")", x.holds(s), Check.NONE);
        }
        x.circles(6);
        for (int c = 0; c < 6; c++) {
            check.due("new: time of " + c, x.circleOf(c, 0), 4 + 2 * c);
            check.due("new: cost of " + c, x.circleOf(c, 1), c == 5 ? 0 : 1);
            check.due("new: ships on " + c, x.circleOf(c, 2), 0);
        }
        FasterToBeLater y = new FasterToBeLater();
        check.due("two objects are apart", y.status(0), 4);
    }

    private static void row() {
        FasterToBeLater x = new FasterToBeLater();
        for (int sort = 0; sort <= 4; sort++) {
            check.due("row(7, " + sort + ", 40)", x.row(7, sort, 40), 1);
            check.due("its sort", x.holds(7), sort);
            check.due("it is empty", x.element(7, 39), 0);
            x.set(7, 39, 1);
        }
        check.due("row(7, 3, 0)", x.row(7, 3, 0), 1);
        check.due("a row of none holds something", x.status(8), 1);
        check.due("no element in it", x.set(7, 0, 1), Check.BAD);
        x.row(7, 3, 40);
        check.due("a new row over an old one is new", x.element(7, 39), 0);
        check.refused("row(-1, ..)", y -> { }, y -> y.row(-1, 0, 1), Check.BAD);
        check.refused("row(8, ..)", y -> { }, y -> y.row(8, 0, 1), Check.BAD);
        check.refused("row sort -1", y -> { }, y -> y.row(0, -1, 1), Check.BAD);
        check.refused("row sort 5", y -> { }, y -> y.row(0, 5, 1), Check.BAD);
        check.refused("row n -1", y -> { }, y -> y.row(0, 0, -1), Check.BAD);
        check.refused("row n 41", y -> y.row(0, 2, 3), y -> y.row(0, 0, 41), Check.BAD);
    }

    private static void set() {
        FasterToBeLater x = new FasterToBeLater();
        long v = 0x123456789ABCDEF0L;
        long[] due = {(byte) 0xF0, (short) 0xDEF0, (int) 0x9ABCDEF0L, v, 1};
        for (int sort = 0; sort <= 4; sort++) {
            x.row(sort, sort, 3);
            check.due("set, sort " + sort, x.set(sort, 2, v), 1);
            check.due("element, sort " + sort, x.element(sort, 2), due[sort]);
            x.set(sort, 2, 256);
            check.due("256, sort " + sort, x.element(sort, 2), new long[] {0, 256, 256, 256, 1}[sort]);
            x.set(sort, 2, 0);
            check.due("0, sort " + sort, x.element(sort, 2), 0);
            x.set(sort, 2, -1);
            check.due("-1, sort " + sort, x.element(sort, 2), sort == 4 ? 1 : -1);
            check.due("its neighbour, sort " + sort, x.element(sort, 1), 0);
        }
        check.refused("set on no shelf", y -> y.row(0, 0, 1), y -> y.set(-1, 0, 1), Check.BAD);
        check.refused("set on shelf 8", y -> y.row(0, 0, 1), y -> y.set(8, 0, 1), Check.BAD);
        check.refused("set on a ship, i bad", ShelvesTest::shipShown, y -> y.set(3, -1, 1), Check.OTHER);
        check.refused("set on nothing, i bad", y -> { }, y -> y.set(0, 99, 1), Check.NOTHING);
        check.refused("set at -1", y -> y.row(0, 0, 2), y -> y.set(0, -1, 1), Check.BAD);
        check.refused("set at the size", y -> y.row(0, 0, 2), y -> y.set(0, 2, 1), Check.BAD);
    }

    private static void copy() {
        FasterToBeLater x = new FasterToBeLater();
        Check.put(x, 0, 1, 10, 11, 12, 13, 14);
        Check.put(x, 1, 1, 20, 21, 22);
        check.due("copy to another", x.copy(0, 1, 3, 1, 2), 2);
        row(x, 1, 20, 13, 14);
        row(x, 0, 10, 11, 12, 13, 14);
        check.due("copy forward over itself", x.copy(0, 0, 0, 1, 4), 4);
        row(x, 0, 10, 10, 11, 12, 13);
        check.due("copy backward over itself", x.copy(0, 0, 1, 0, 4), 4);
        row(x, 0, 10, 11, 12, 13, 13);
        check.due("copy of none", x.copy(0, 1, 5, 3, 0), 0);
        row(x, 1, 20, 13, 14);

        java.util.function.Consumer<FasterToBeLater> setting = y -> {
            shipShown(y);
            Check.put(y, 0, 1, 10, 11, 12);
            Check.put(y, 1, 1, 20, 21);
            Check.put(y, 2, 2, 30, 31);
        };
        check.refused("copy from shelf -1", setting, y -> y.copy(-1, 3, 0, 0, 1), Check.BAD);
        check.refused("copy to shelf 8", setting, y -> y.copy(3, 8, 0, 0, 1), Check.BAD);
        check.refused("copy of two sorts", setting, y -> y.copy(0, 2, 0, 0, 1), Check.OTHER);
        check.refused("copy of two sorts, i bad", setting, y -> y.copy(0, 2, -1, 0, 1), Check.OTHER);
        check.refused("copy from a ship to nothing", setting, y -> y.copy(3, 4, 0, 0, 1), Check.OTHER);
        check.refused("copy from nothing to a ship", setting, y -> y.copy(4, 3, 0, 0, 1), Check.OTHER);
        check.refused("copy from a ship to a row", setting, y -> y.copy(3, 0, 0, 0, 1), Check.OTHER);
        check.refused("copy from nothing, n bad", setting, y -> y.copy(4, 0, 0, 0, -1), Check.NOTHING);
        check.refused("copy to nothing", setting, y -> y.copy(2, 4, 0, 0, 1), Check.NOTHING);
        check.refused("copy of nothing to nothing", setting, y -> y.copy(4, 5, 0, 0, 1), Check.NOTHING);
        check.refused("copy i -1", setting, y -> y.copy(0, 1, -1, 0, 1), Check.BAD);
        check.refused("copy j -1", setting, y -> y.copy(0, 1, 0, -1, 1), Check.BAD);
        check.refused("copy n -1", setting, y -> y.copy(0, 1, 0, 0, -1), Check.BAD);
        check.refused("copy beyond the first", setting, y -> y.copy(0, 1, 2, 0, 2), Check.BAD);
        check.refused("copy beyond the second", setting, y -> y.copy(0, 1, 0, 1, 2), Check.BAD);
        int most = Integer.MAX_VALUE;
        check.refused("copy with i and n past all ints", setting, y -> y.copy(0, 1, most, 0, most), Check.BAD);
        check.refused("copy with j and n past all ints", setting, y -> y.copy(0, 1, 0, most, 1), Check.BAD);
    }

    private static void row(FasterToBeLater x, int s, long... due) {
        for (int i = 0; i < due.length; i++) {
            check.due("element(" + s + ", " + i + ")", x.element(s, i), due[i]);
        }
    }

    private static void element() {
        java.util.function.Consumer<FasterToBeLater> setting = y -> {
            shipShown(y);
            Check.put(y, 0, 3, Long.MIN_VALUE, Long.MAX_VALUE);
        };
        check.only("element", setting, y -> y.element(0, 0), Long.MIN_VALUE);
        check.only("the last element", setting, y -> y.element(0, 1), Long.MAX_VALUE);
        check.only("an element behind the last", setting, y -> y.element(0, 2), 0);
        check.only("an element at -1", setting, y -> y.element(0, -1), 0);
        check.only("an element behind forty", y -> y.row(0, 0, 40), y -> y.element(0, 40), 0);
        check.only("an element of a ship", setting, y -> y.element(3, 0), 0);
        check.only("an element of nothing", setting, y -> y.element(1, 0), 0);
        check.only("an element on shelf 8", setting, y -> y.element(8, 0), 0);
        check.only("an element on shelf -1", setting, y -> y.element(-1, 0), 0);
    }

    private static void shipShown(FasterToBeLater x) {
        x.ship(0, 1, 2, 7);
        x.ship(1, 1, 2, 8);
        x.show(3, 1);
    }

    private static void holdsAndShow() {
        FasterToBeLater x = Check.made(ShelvesTest::shipShown);
        check.due("holds a ship", x.holds(3), 11);
        check.due("show(0, 0)", x.show(0, 0), 1);
        check.due("holds another", x.holds(0), 10);
        check.due("two hold something", x.status(8), 2);
        x.row(0, 4, 2);
        check.due("a row in place of a ship", x.holds(0), 4);
        check.due("show over a row", x.show(0, 1), 1);
        check.due("a ship in place of a row", x.holds(0), 11);
        check.due("show(0, NONE)", x.show(0, Check.NONE), 1);
        check.due("holds nothing again", x.holds(0), Check.NONE);
        check.due("one holds something", x.status(8), 1);
        check.only("holds(8)", ShelvesTest::shipShown, y -> y.holds(8), Check.NONE);
        check.only("holds(-1)", ShelvesTest::shipShown, y -> y.holds(-1), Check.NONE);
        check.refused("show(8, 0)", ShelvesTest::shipShown, y -> y.show(8, 0), Check.BAD);
        check.refused("show(-1, NONE)", ShelvesTest::shipShown, y -> y.show(-1, Check.NONE), Check.BAD);
        check.refused("show(3, 2)", ShelvesTest::shipShown, y -> y.show(3, 2), Check.BAD);
        check.refused("show(3, -2)", ShelvesTest::shipShown, y -> y.show(3, -2), Check.BAD);
    }

    /** One of each kind on CIRCLE 1 (TIME 6), its COST up 5; those of even number at PLACE 2. */
    private static void fleet(FasterToBeLater x) {
        x.cost(1, 5);
        for (int kind = 0; kind < 6; kind++) {
            x.ship(kind, 1, kind % 2 == 0 ? 2 : 3, 10 * kind);
            x.show(kind, kind);
        }
    }

    private static void says() {
        int room = 6 * 99 - 150;
        int[][] due = {
            {0, -3, -3, -3, -3, -3},
            {10, 3, -3, -3, -3, -3},
            {20, -3, 2, -3, -3, -3},
            {30, -3, 2, 5, -3, -3},
            {40, -3, -3, -3, 5, -3},
            {50, 3, -3, -3, -3, room - 49},
        };
        for (int s = 0; s < 6; s++) {
            for (int kind = 0; kind < 6; kind++) {
                check.due("says(" + s + ", " + kind + ")", Check.made(ShelvesTest::fleet).says(s, kind), due[s][kind]);
            }
        }
        FasterToBeLater x = Check.made(ShelvesTest::fleet);
        x.change(1, 2);
        check.due("a tug on its way tells the cost from where it comes to", x.says(1, 1), 1);
        check.due("a busy one isn't met", x.says(3, 2), 1);
        check.due("a busy one isn't on the circle", x.says(3, 3), 4);
        x.hurl(5, 3, 1);
        check.due("a busy bolt meets none", x.says(3, 2), 0);
        check.due("a busy bolt's circle", x.says(3, 3), 0);
        FasterToBeLater top = Check.read("circles 2; ship 1 1 0 drops 9; ship 5 0 0");
        top.show(0, 0);
        top.show(1, 1);
        check.due("a tug with none above", top.says(0, 1), 0);
        check.due("a tanker's change up, with no drops", top.says(1, 1), 1);
        check.due("room in one other", top.says(1, 5), 90);
    }

    private static void saysRefusals() {
        java.util.function.Consumer<FasterToBeLater> setting = y -> {
            shipShown(y);
            y.row(0, 0, 1);
        };
        check.refused("says on shelf 8", setting, y -> y.says(8, 0), Check.BAD);
        check.refused("says kind 6 of a row", setting, y -> y.says(0, 6), Check.BAD);
        check.refused("says kind -1 of nothing", setting, y -> y.says(1, -1), Check.BAD);
        check.refused("says of a row", setting, y -> y.says(0, 0), Check.OTHER);
        check.refused("says of another kind", setting, y -> y.says(3, 5), Check.OTHER);
        check.refused("says of nothing", setting, y -> y.says(1, 5), Check.NOTHING);
    }
}
