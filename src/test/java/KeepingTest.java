import java.util.function.Consumer;

/** Promises 43 to 45: image, back, status; and what the Terms say of REFUSALS. */
public final class KeepingTest {
    private static final Check check = new Check("KeepingTest");

    public static void main(String[] args) {
        image();
        back();
        backOfShelves();
        backRefusals();
        status();
        statusEdges();
        statusOfShelves();
        refusals();
        bad();
        other();
        nothing();
        stuck();
        full();
        check.end();
    }

    private static void world(FasterToBeLater x) {
        Check.feed(x, "circles 5;time 4 20;cost 3 9;ship 0 1 2 drops 5;ship 3 1 2;step 3");
        x.change(0, 1);
        x.seed(77);
    }

    private static void image() {
        check.of(43, "All is kept, but THE TAPE, SHELVES and REFUSALS: 1.");
        check.taken("of a new object", x -> { }, x -> x.image(), 1);
        check.due("image", Check.made(KeepingTest::world).image(), 1);
        FasterToBeLater x = Check.made(KeepingTest::world);
        String kept = Check.told(x);
        x.image();
        check.same("nothing changes at once", Check.told(x), kept);
        x.bolts(2);
        x.cost(3, 1);
        x.time(4, 3);
        x.ship(5, 0, 0, 9);
        x.fill(0, 99);
        x.step(30);
        x.change(0, 2);
        x.seed(5);
        check.due("it is all otherwise", Check.told(x).equals(kept) ? 1 : 0, 0);
        x.back();
        check.same("all is as it was", Check.told(x), kept);
        FasterToBeLater y = Check.made(z -> z.image());
        y.feed(7);
        y.row(0, 0, 3);
        y.set(0, 1, 9);
        y.set(0, 9, 9);
        y.back();
        check.due("THE TAPE isn't kept", y.status(6), 1);
        check.due("a SHELF isn't", y.element(0, 1), 9);
        check.due("REFUSALS aren't", y.status(12), 1);
        FasterToBeLater z = Check.made(KeepingTest::world);
        z.image();
        z.step(1);
        check.due("a later image", z.image(), 1);
        String later = Check.told(z);
        z.step(5);
        z.back();
        check.same("the later one is kept", Check.told(z), later);
    }

    private static void back() {
        check.of(44, "All is again as it was kept");
        FasterToBeLater x = Check.made(KeepingTest::world);
        String kept = Check.told(x);
        x.image();
        check.due("back at once", x.back(), 1);
        check.same("all is as it was", Check.told(x), kept);
        x.step(7);
        check.due("back", x.back(), 1);
        x.step(9);
        check.due("back once more", x.back(), 1);
        check.same("all is as it was once more", Check.told(x), kept);
        FasterToBeLater empty = Check.made(z -> z.image());
        empty.circles(2);
        empty.bolts(6);
        empty.step(3);
        empty.back();
        check.same("of a new object", Check.told(empty), Check.told(new FasterToBeLater()));
        FasterToBeLater fuller = Check.made(z -> z.bolts(6));
        String six = Check.told(fuller);
        fuller.image();
        fuller.step(1);
        fuller.back();
        check.same("of six", Check.told(fuller), six);
        check.due("there is no room", fuller.ship(0, 0, 0, 0), Check.FULL);
    }

    private static void backOfShelves() {
        check.of(44, "(SHELVES with SHIPS hold those of the same numbers, or NOTHING): 1.");
        FasterToBeLater x = Check.read("ship 0 0 0 drops 4");
        x.image();
        x.ship(1, 1, 1, 9);
        x.fill(0, 50);
        x.show(0, 0);
        x.show(1, 1);
        x.show(7, 1);
        Check.put(x, 2, 2, 8, 9);
        x.feed(7);
        x.set(5, 0, 0);
        check.due("back", x.back(), 1);
        check.due("a SHIP that is there", x.holds(0), 10);
        check.due("it is the one that was kept", x.says(0, 0), 4);
        check.due("a SHIP that isn't", x.holds(1), Check.NONE);
        check.due("nor on the last SHELF", x.holds(7), Check.NONE);
        check.due("that is NOTHING", x.says(1, 0), Check.NOTHING);
        check.due("a ROW", x.element(2, 1), 9);
        x.ship(2, 2, 2, 2);
        check.due("a new SHIP of that number isn't shown", x.holds(1), Check.NONE);
        for (int there = 0; there <= 6; there++) {
            int count = there;
            FasterToBeLater y = Check.made(z -> { if (count > 0) z.bolts(count); });
            y.image();
            y.bolts(6);
            for (int s = 0; s < 8; s++) {
                y.show(s, s % 6);
            }
            y.back();
            for (int s = 0; s < 8; s++) {
                check.due("SHELF " + s + " with " + there + " kept", y.holds(s), s % 6 < there ? 10 + s % 6 : Check.NONE);
            }
        }
    }

    private static void backRefusals() {
        check.of(44, "STUCK: nothing was.");
        check.refused("in a new object", x -> { }, x -> x.back(), Check.STUCK);
        check.refused("in another", Check.text("ship 0 0 0;step 3").andThen(x -> x.show(0, 0)), x -> x.back(), Check.STUCK);
        check.taken("but when something was", Check.text("ship 0 0 0").andThen(x -> x.image()), x -> x.back(), 1);
    }

    private static void status() {
        check.of(45, "CIRCLES (0), SHIPS (1), T (2), HITS (3), DROPS of all (4), BUSY ones (5, bits), THE TAPE's size (6), SEED (7)");
        Consumer<FasterToBeLater> set = x -> {
            Check.feed(x, "circles 3;ship 0 1 2 drops 5;ship 3 1 2 drops 6;ship 1 1 2 drops 7;step 3");
            x.change(0, 1);
            x.change(2, 2);
            x.feed(1);
            x.feed(2);
            x.seed(-5);
            x.row(7, 0, 0);
            x.show(6, 1);
        };
        int[] due = {3, 3, 3, 6, 16, 5, 2, -5, 2};
        for (int what = 0; what < due.length; what++) {
            int asked = what;
            check.only("status(" + what + ")", set, x -> x.status(asked), due[what]);
        }
    }

    private static void statusEdges() {
        Consumer<FasterToBeLater> six = x -> {
            Check.feed(x, "time 0 2" + ";ship 0 0 0 drops 99".repeat(6));
            for (int i = 0; i < 6; i++) {
                x.change(i, 1);
                x.fill(i, 99);
            }
        };
        check.only("six SHIPS", six, x -> x.status(1), 6);
        check.only("DROPS of six", six, x -> x.status(4), 594);
        check.only("six BUSY ones, for one STEP still", six, x -> x.status(5), 63);
        check.only("none behind it", six.andThen(x -> x.step(1)), x -> x.status(5), 0);
        check.only("THE TAPE's size", x -> Check.letters(x, " ".repeat(250)), x -> x.status(6), 250);
        check.only("a negative SEED", x -> x.seed(Integer.MIN_VALUE), x -> x.status(7), Integer.MIN_VALUE);
        check.of(45, "NONE another what.");
        int[] none = {-1, -2, 9, 10, 11, 17, 18, 100, Integer.MIN_VALUE, Integer.MIN_VALUE + 12, Integer.MAX_VALUE};
        for (int what : none) {
            check.only("status(" + what + ")", six, y -> y.status(what), Check.NONE);
        }
    }

    private static void statusOfShelves() {
        check.of(45, "SHELVES that hold something (8)");
        FasterToBeLater x = Check.read("ship 0 0 0");
        check.due("none", x.status(8), 0);
        for (int s = 0; s < 8; s++) {
            if (s % 2 == 0) {
                x.row(s, 0, 0);
            } else {
                x.show(s, 0);
            }
            check.due("so many", x.status(8), s + 1);
        }
        x.row(3, 1, 1);
        check.due("one thing in place of another", x.status(8), 8);
        for (int s = 7; s >= 0; s--) {
            x.show(s, Check.NONE);
            check.due("so many still", x.status(8), s);
        }
    }

    private static void refusals() {
        check.of(Check.TERMS, "REFUSALS (the call answers the number; nothing changes but how many there were; the first that fits as each line has them)");
        check.of(45, "12 to 16: REFUSALS -2 to -6.");
        FasterToBeLater x = new FasterToBeLater();
        x.bolts(6);
        x.show(6, 0);
        for (int i = 0; i < 5; i++) {
            check.due("none at first", x.status(12 + i), 0);
        }
        x.step(61);
        for (int i = 0; i < 2; i++) {
            x.set(6, 0, 0);
        }
        for (int i = 0; i < 3; i++) {
            x.set(0, 0, 0);
        }
        for (int i = 0; i < 4; i++) {
            x.change(1, 1);
        }
        for (int i = 0; i < 5; i++) {
            x.ship(0, 0, 0, 0);
        }
        for (int i = 0; i < 5; i++) {
            check.due("status(" + (12 + i) + ")", x.status(12 + i), i + 1);
        }
        Check.feed(x, "x");
        check.due("a FAULT is one of BAD", x.status(12), 2);
        check.due("and of no other", x.status(13) + x.status(14) + x.status(15) + x.status(16), 14);
        FasterToBeLater many = new FasterToBeLater();
        for (int i = 0; i < 500; i++) {
            many.back();
        }
        check.due("very many", many.status(15), 500);
    }

    private static void bad() {
        check.of(Check.TERMS, "-2 BAD a number that may not be, nothing of that number.");
        check.refused("a number that may not be", x -> { }, x -> x.step(0), Check.BAD);
        check.refused("no SHIP of that number", x -> { }, x -> x.fill(0, 0), Check.BAD);
        check.refused("no CIRCLE of that number", x -> { }, x -> x.circleOf(4, 0), Check.BAD);
        check.refused("no SHELF of that number", x -> { }, x -> x.show(8, Check.NONE), Check.BAD);
        // with no SHIPS at all, every call of one
        check.refused("says", x -> { }, x -> x.says(0, 6), Check.BAD);
        check.refused("can", x -> { }, x -> x.can(0, 1), Check.BAD);
        check.refused("behind", x -> { }, x -> x.behind(0, 0, 0), Check.BAD);
        check.refused("meets", x -> { }, x -> x.meets(0, 1), Check.BAD);
        check.refused("judge", x -> x.row(0, 0, 0), x -> x.judge(0, 0, 0), Check.BAD);
        check.refused("flown", x -> x.row(0, 0, 0), x -> x.flown(0, 0, 0, 0), Check.BAD);
        check.refused("met", x -> x.row(0, 0, 0), x -> x.met(0, 0, 0, 1), Check.BAD);
        check.refused("cheapest", x -> { }, x -> x.cheapest(0, 1, 0), Check.BAD);
        check.refused("soonest", x -> { }, x -> x.soonest(0, 1), Check.BAD);
        check.refused("way", x -> { }, x -> x.way(0, 1, 0), Check.BAD);
        check.refused("round", x -> { }, x -> x.round(0, 0, 0), Check.BAD);
        check.refused("home", x -> { }, x -> x.home(0, 0), Check.BAD);
        check.refused("pass", x -> { }, x -> x.pass(0, 1), Check.BAD);
        check.refused("queue", x -> { }, x -> x.queue(0, 0), Check.BAD);
        check.refused("burnt", x -> x.row(0, 0, 3), x -> x.burnt(0, 1, 0), Check.BAD);
        check.refused("tag", x -> { }, x -> x.tag(0, 1, 0), Check.BAD);
        check.refused("change", x -> { }, x -> x.change(0, 1), Check.BAD);
        check.refused("hand", x -> { }, x -> x.hand(0, 1, 1), Check.BAD);
        check.refused("hurl", x -> { }, x -> x.hurl(0, 1, 1), Check.BAD);
    }

    private static void other() {
        check.of(Check.TERMS, "-3 OTHER: a SHELF that holds another thing than is wanted.");
        Consumer<FasterToBeLater> ship = Check.text("ship 0 0 0").andThen(x -> x.show(0, 0));
        check.refused("a SHIP where a ROW is wanted", ship, x -> x.set(0, 0, 0), Check.OTHER);
        check.refused("a ROW where a SHIP is wanted", ship.andThen(x -> x.row(0, 0, 9)), x -> x.says(0, 0), Check.OTHER);
    }

    private static void nothing() {
        check.of(Check.TERMS, "-4 NOTHING: a SHELF that holds NOTHING.");
        check.refused("where a ROW is wanted", x -> { }, x -> x.set(0, 0, 0), Check.NOTHING);
        check.refused("where a SHIP is wanted", x -> { }, x -> x.says(0, 0), Check.NOTHING);
        Consumer<FasterToBeLater> emptied = Check.text("ship 0 0 0").andThen(x -> x.row(0, 0, 9)).andThen(x -> x.show(0, Check.NONE));
        check.refused("where there was a ROW", emptied, x -> x.judge(0, 0, 0), Check.NOTHING);
    }

    private static void stuck() {
        check.of(Check.TERMS, "-5 STUCK: it can't be as things stand.");
        check.refused("nothing was kept", x -> { }, x -> x.back(), Check.STUCK);
        check.refused("there are SHIPS", Check.text("ship 0 0 0"), x -> x.circles(3), Check.STUCK);
    }

    private static void full() {
        check.of(Check.TERMS, "-6 FULL.");
        check.refused("SHIPS", x -> x.bolts(6), x -> x.ship(0, 0, 0, 0), Check.FULL);
        check.refused("THE TAPE", x -> Check.letters(x, "x".repeat(250)), x -> x.feed(0), Check.FULL);
    }
}
