/** Promises 43 to 45: image, back, status. */
public final class KeepingTest {
    private static final Check check = new Check("KeepingTest");

    public static void main(String[] args) {
        imageAndBack();
        shelvesStay();
        status();
        check.end();
    }

    private static void imageAndBack() {
        FasterToBeLater x = new FasterToBeLater();
        Check.feed(x, "circles 5;time 4 20;cost 3 9;ship 0 1 2 drops 5;ship 3 1 2;step 3");
        x.change(0, 1);
        x.seed(77);
        String kept = Check.told(x);
        check.due("image", x.image(), 1);
        x.bolts(2);
        Check.feed(x, "cost 3 1;time 4 3;ship 5 0 0;step 30");
        x.fill(0, 99);
        check.due("back", x.back(), 1);
        check.due("all is as it was", Check.told(x).equals(kept) ? 1 : 0, 1);
        x.step(7);
        check.due("back once more", x.back(), 1);
        check.due("all is as it was once more", Check.told(x).equals(kept) ? 1 : 0, 1);
        x.step(1);
        x.image();
        String later = Check.told(x);
        x.step(5);
        x.back();
        check.due("the later image", Check.told(x).equals(later) ? 1 : 0, 1);
        FasterToBeLater y = new FasterToBeLater();
        y.image();
        y.circles(2);
        y.ship(0, 0, 0, 0);
        y.back();
        check.due("an image of none", y.status(1), 0);
        check.due("and its circles", y.status(0), 4);
        check.refused("back with nothing kept", z -> Check.feed(z, "ship 0 0 0"), z -> z.back(), Check.STUCK);
    }

    private static void shelvesStay() {
        FasterToBeLater x = Check.read("ship 0 0 0 drops 4");
        x.image();
        x.ship(1, 1, 1, 9);
        x.fill(0, 50);
        x.show(0, 0);
        x.show(1, 1);
        x.show(7, 1);
        Check.put(x, 2, 2, 8, 9);
        x.feed(7);
        x.set(5, 0, 0);
        x.back();
        check.due("a ship that is there", x.holds(0), 10);
        check.due("it is the one that was kept", x.says(0, 0), 4);
        check.due("a ship that isn't", x.holds(1), Check.NONE);
        check.due("nor on the last shelf", x.holds(7), Check.NONE);
        check.due("a row", x.element(2, 1), 9);
        check.due("the tape", x.status(6), 1);
        check.due("refusals", x.status(14), 1);
        x.ship(2, 2, 2, 2);
        check.due("a new ship of that number isn't shown", x.holds(1), Check.NONE);
        FasterToBeLater y = new FasterToBeLater();
        y.image();
        y.bolts(6);
        for (int s = 0; s < 8; s++) {
            y.show(s, s % 6);
        }
        y.back();
        check.due("no shelf holds a ship that isn't", y.status(8), 0);
    }

    private static void status() {
        FasterToBeLater x = Check.read("circles 3;ship 0 1 2 drops 5;ship 3 1 2 drops 6;ship 1 1 2 drops 7;step 3");
        x.change(0, 1);
        x.change(2, 2);
        x.feed(1);
        x.feed(2);
        x.seed(-5);
        x.row(7, 0, 0);
        x.show(6, 1);
        int[] due = {3, 3, 3, 6, 16, 5, 2, -5, 2};
        for (int what = 0; what < due.length; what++) {
            check.due("status(" + what + ")", x.status(what), due[what]);
        }
        check.due("a tug that is busy once more", Check.read("circles 2;time 0 2;ship 1 0 0 drops 1").change(0, 1), 1);
        FasterToBeLater busyOnce = Check.read("circles 2;time 0 2;ship 4 0 0;ship 1 0 0 drops 1");
        busyOnce.change(1, 1);
        check.due("busy for one step", busyOnce.status(5), 2);
        check.due("again, with one busy for one step", busyOnce.again(), Check.NONE);
        x.step(61);
        x.set(6, 0, 0);
        x.set(6, 0, 0);
        x.set(0, 0, 0);
        x.set(0, 0, 0);
        x.set(0, 0, 0);
        for (int i = 0; i < 4; i++) {
            x.change(1, 1);
        }
        x.bolts(6);
        for (int i = 0; i < 5; i++) {
            x.ship(0, 0, 0, 0);
        }
        for (int i = 0; i < 5; i++) {
            check.due("status(" + (12 + i) + ")", x.status(12 + i), i + 1);
        }
        int[] none = {-1, 9, 10, 11, 17, 100, Integer.MIN_VALUE, Integer.MAX_VALUE};
        for (int what : none) {
            check.only("status(" + what + ")", y -> { }, y -> y.status(what), Check.NONE);
        }
        check.due("none of that is refused", x.status(12), 1);
    }
}
