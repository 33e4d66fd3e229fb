import java.util.function.Consumer;

/** Promises 19 to 24: can, behind, meets, judge, flown, met. */
public final class MovesTest {
    private static final Check check = new Check("MovesTest");

    public static void main(String[] args) {
        can();
        behind();
        meets();
        judge();
        flown();
        met();
        flightRefusals();
        check.end();
    }

    private static void can() {
        Consumer<FasterToBeLater> setting = x -> Check.feed(x,
            "circles 3;cost 0 5;cost 1 4;ship 0 1 0 drops 5;ship 1 1 0 drops 2;ship 5 1 0 drops 3;ship 2 1 0 drops 99;"
            + "ship 3 1 0 drops 99;ship 4 1 0 drops 99");
        int[][] due = {{4, 5}, {2, -1}, {2, 3}, {-1, -1}, {-1, -1}, {-1, -1}};
        for (int i = 0; i < 6; i++) {
            int ship = i;
            check.only("can(" + i + ", 1)", setting, x -> x.can(ship, 1), due[i][0]);
            check.only("can(" + i + ", 2)", setting, x -> x.can(ship, 2), due[i][1]);
        }
        FasterToBeLater x = Check.read("circles 2;ship 0 0 0 drops 9;ship 0 1 0 drops 9");
        check.due("none below", x.can(0, 2), Check.NONE);
        check.due("none above", x.can(1, 1), Check.NONE);
        x.change(0, 1);
        check.due("a busy one can't", x.can(0, 2), Check.NONE);
        x.step(2);
        check.due("now it can", x.can(0, 2), 1);
        check.refused("can(-1, 1)", setting, y -> y.can(-1, 1), Check.BAD);
        check.refused("can(6, 1)", setting, y -> y.can(6, 1), Check.BAD);
        check.refused("can(0, 0)", setting, y -> y.can(0, 0), Check.BAD);
        check.refused("can(0, 3)", setting, y -> y.can(0, 3), Check.BAD);
    }

    /** A SHIP under way from PLACE 1 of 4 to CIRCLE 1 (TIME 6): 1 and 3 is 4, BUSY 2. */
    private static void underWay(FasterToBeLater x) {
        Check.feed(x, "ship 0 0 1 drops 9");
        x.change(0, 1);
    }

    private static void behind() {
        int[][] due = {{0, 4, 2}, {1, 4, 1}, {2, 4, 0}, {3, 5, 0}, {4, 0, 0}, {400, 0, 0}, {399, 5, 0}};
        for (int[] d : due) {
            check.only("behind(0, " + d[0] + ", 0)", MovesTest::underWay, x -> x.behind(0, d[0], 0), 1);
            check.only("behind(0, " + d[0] + ", 1)", MovesTest::underWay, x -> x.behind(0, d[0], 1), d[1]);
            check.only("behind(0, " + d[0] + ", 2)", MovesTest::underWay, x -> x.behind(0, d[0], 2), d[2]);
        }
        check.refused("behind(1, 0, 0)", MovesTest::underWay, x -> x.behind(1, 0, 0), Check.BAD);
        check.refused("behind(-1, 0, 0)", MovesTest::underWay, x -> x.behind(-1, 0, 0), Check.BAD);
        check.refused("behind(0, -1, 0)", MovesTest::underWay, x -> x.behind(0, -1, 0), Check.BAD);
        check.refused("behind(0, 401, 0)", MovesTest::underWay, x -> x.behind(0, 401, 0), Check.BAD);
        check.refused("behind(0, 0, -1)", MovesTest::underWay, x -> x.behind(0, 0, -1), Check.BAD);
        check.refused("behind(0, 0, 3)", MovesTest::underWay, x -> x.behind(0, 0, 3), Check.BAD);
    }

    private static void meets() {
        Consumer<FasterToBeLater> setting = x -> Check.feed(x, "ship 0 1 4 drops 9;ship 4 1 4;ship 3 1 3;ship 2 2 4;ship 0 0 1 drops 9");
        check.only("meets(0, 1)", setting, x -> x.meets(0, 1), 1);
        check.only("meets(1, 0)", setting, x -> x.meets(1, 0), 1);
        check.only("another place", setting, x -> x.meets(0, 2), 0);
        check.only("another circle", setting, x -> x.meets(0, 3), 0);
        // SHIP 4 comes to CIRCLE 1, PLACE 4
        Consumer<FasterToBeLater> busy = setting.andThen(x -> x.change(4, 1));
        check.only("a busy one", busy, x -> x.meets(1, 4), 0);
        check.only("a busy one, first", busy, x -> x.meets(4, 1), 0);
        check.refused("meets(0, 0)", setting, x -> x.meets(0, 0), Check.BAD);
        check.refused("meets(-1, 0)", setting, x -> x.meets(-1, 0), Check.BAD);
        check.refused("meets(0, 5)", setting, x -> x.meets(0, 5), Check.BAD);
    }

    /** Two SHIPS with 3 drops, from CIRCLE 0 (TIME 4) up costs 2; SHELF 0 has the codes. */
    private static Consumer<FasterToBeLater> codes(long... codes) {
        return x -> {
            Check.feed(x, "cost 0 2;ship 0 0 1 drops 3;ship 0 1 3 drops 3;ship 1 0 1 drops 3;ship 2 0 1 drops 3");
            Check.put(x, 0, 3, codes);
        };
    }

    private static void judge() {
        check.only("no codes", codes(), x -> x.judge(0, 0, 0), Check.NONE);
        check.only("0 of some", codes(9), x -> x.judge(0, 0, 0), Check.NONE);
        check.only("up, 0, down with too few drops", codes(1, 0, 2), x -> x.judge(0, 3, 0), 2);
        check.only("its first two", codes(1, 0, 2), x -> x.judge(0, 2, 0), Check.NONE);
        check.only("a tug has enough", codes(1, 0, 2), x -> x.judge(0, 3, 2), Check.NONE);
        check.only("up while busy", codes(1, 1), x -> x.judge(0, 2, 2), 1);
        check.only("down at the lowest", codes(0, 2), x -> x.judge(0, 2, 0), 1);
        check.only("a code of 3", codes(0, 0, 3), x -> x.judge(0, 3, 0), 2);
        check.only("a code of -1", codes(0, -1), x -> x.judge(0, 2, 0), 1);
        check.only("a long that is 1 as an int", codes(0, 0, 1L << 32 | 1), x -> x.judge(0, 3, 0), 2);
        check.only("a parcel may drift", codes(0, 0), x -> x.judge(0, 2, 3), Check.NONE);
        check.only("a parcel can't", codes(0, 1), x -> x.judge(0, 2, 3), 1);
        check.only("a row of booleans", codes().andThen(x -> Check.put(x, 1, 4, 7, 0)), x -> x.judge(1, 2, 0), Check.NONE);
        check.only("forty", codes(new long[40]), x -> x.judge(0, 40, 0), Check.NONE);
    }

    private static void flown() {
        // from PLACE 1 of 4: 1 times 6 by 4, cut, is 1; 3 more is 4
        int[][] due = {{0, 1, 3, 0}, {1, 4, 1, 1}, {1, 4, 1, 0}, {1, 5, 1, 0}, {1, 0, 1, 0}};
        for (int n = 0; n < due.length; n++) {
            int first = n;
            for (int what = 0; what < 4; what++) {
                int asked = what;
                check.only("flown n " + n + " what " + what, codes(1, 0, 0, 0, 2), x -> x.flown(0, first, 0, asked), due[n][what]);
            }
        }
        check.refused("a code that can't be", codes(1, 0, 0, 0, 2), x -> x.flown(0, 5, 0, 0), Check.STUCK);
    }

    private static void met() {
        // behind 2 STEPS the SHIP is at CIRCLE 1, PLACE 4, and SHIP 1 at 5; one that waits 1 STEP more: 2 by 4 is 3, and 3 is 0
        check.only("it doesn't meet", codes(1, 0, 0, 0, 0), x -> x.met(0, 5, 0, 1), Check.NONE);
        check.only("it meets", codes(0, 1, 0, 0, 0), x -> x.met(0, 5, 0, 1), 3);
        check.only("just so far", codes(0, 1, 0), x -> x.met(0, 3, 0, 1), 3);
        check.only("not yet", codes(0, 1, 0), x -> x.met(0, 2, 0, 1), Check.NONE);
        check.only("ahead of all", codes(1, 0), x -> x.met(0, 2, 0, 2), 0);
        check.only("ahead of all, with no codes", codes(), x -> x.met(0, 0, 0, 2), 0);
        check.refused("a code that can't be, behind the meeting", codes(0, 2), x -> x.met(0, 2, 0, 2), Check.STUCK);
        // the other drifts with what it is BUSY: it comes at STEP 2, and the SHIP that waited there meets it
        Consumer<FasterToBeLater> busy = x -> {
            Check.feed(x, "ship 0 0 1 drops 3;ship 0 1 2");
            x.change(0, 1);
            x.row(0, 0, 5);
        };
        check.only("one that comes", busy, x -> x.met(0, 5, 1, 0), 2);
        check.only("one that waits", busy, x -> x.met(0, 5, 0, 1), 2);
    }

    private static void flightRefusals() {
        Consumer<FasterToBeLater> set = codes(0, 2).andThen(x -> x.show(1, 0));
        check.refused("judge on shelf 8", set, x -> x.judge(8, 1, 0), Check.BAD);
        check.refused("judge n -1", set, x -> x.judge(0, -1, 0), Check.BAD);
        check.refused("judge n 41 on a ship", set, x -> x.judge(1, 41, 0), Check.BAD);
        check.refused("judge ship 4 on nothing", set, x -> x.judge(2, 0, 4), Check.BAD);
        check.refused("judge on a ship", set, x -> x.judge(1, 1, 0), Check.OTHER);
        check.refused("judge on nothing", set, x -> x.judge(2, 1, 0), Check.NOTHING);
        check.refused("judge of fewer", set, x -> x.judge(0, 3, 0), Check.BAD);
        check.refused("flown on shelf -1", set, x -> x.flown(-1, 1, 0, 0), Check.BAD);
        check.refused("flown n 41", set, x -> x.flown(1, 41, 0, 0), Check.BAD);
        check.refused("flown ship -1", set, x -> x.flown(2, 1, -1, 0), Check.BAD);
        check.refused("flown what 4 on a ship", set, x -> x.flown(1, 1, 0, 4), Check.BAD);
        check.refused("flown what -1 on nothing", set, x -> x.flown(2, 1, 0, -1), Check.BAD);
        check.refused("flown on a ship", set, x -> x.flown(1, 1, 0, 0), Check.OTHER);
        check.refused("flown on nothing", set, x -> x.flown(2, 1, 0, 0), Check.NOTHING);
        check.refused("flown of fewer, ahead of stuck", set, x -> x.flown(0, 3, 0, 0), Check.BAD);
        check.refused("met on shelf 8", set, x -> x.met(8, 1, 0, 1), Check.BAD);
        check.refused("met n -1", set, x -> x.met(0, -1, 0, 1), Check.BAD);
        check.refused("met of one twice, on a ship", set, x -> x.met(1, 1, 0, 0), Check.BAD);
        check.refused("met of another that isn't, on nothing", set, x -> x.met(2, 1, 0, 4), Check.BAD);
        check.refused("met on a ship", set, x -> x.met(1, 1, 0, 1), Check.OTHER);
        check.refused("met on nothing", set, x -> x.met(2, 1, 0, 1), Check.NOTHING);
        check.refused("met of fewer", set, x -> x.met(0, 3, 0, 1), Check.BAD);
        check.refused("met, stuck", set, x -> x.met(0, 2, 0, 1), Check.STUCK);
    }
}
