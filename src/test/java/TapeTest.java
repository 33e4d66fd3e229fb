/** Promises 14 to 16: feed, wipe, world. */
public final class TapeTest {
    private static final Check check = new Check("TapeTest");

    public static void main(String[] args) {
        feedAndWipe();
        goodTexts();
        faults();
        faultsOfWhatThereIs();
        allOrNothing();
        check.end();
    }

    private static void feedAndWipe() {
        FasterToBeLater x = new FasterToBeLater();
        check.due("wipe of none", x.wipe(), 0);
        check.due("feed(0)", x.feed(0), 1);
        check.due("feed(255)", x.feed(255), 2);
        check.due("status(6)", x.status(6), 2);
        check.due("wipe", x.wipe(), 2);
        check.due("it is empty", x.status(6), 0);
        for (int i = 1; i <= 250; i++) {
            check.due("feed " + i, x.feed(32), i);
        }
        check.due("the tape is full", x.feed(32), Check.FULL);
        check.due("full, and bad", x.feed(256), Check.BAD);
        check.due("one was full", x.status(16), 1);
        check.due("one was bad", x.status(12), 1);
        check.due("250 blanks are no world", x.world(), -270);
        check.due("the tape is empty", x.status(6), 0);
        check.refused("feed(-1)", y -> y.feed(7), y -> y.feed(-1), Check.BAD);
        check.refused("feed(256)", y -> y.feed(7), y -> y.feed(256), Check.BAD);
    }

    private static void good(String text, int statements, String told) {
        FasterToBeLater x = new FasterToBeLater();
        check.due(text, Check.feed(x, text), statements);
        check.due(text + ": tape", x.status(6), 0);
        check.due(text + ": refusals", x.status(12), 0);
        if (!Check.told(x).startsWith(told)) {
            check.due(text + ": " + Check.told(x) + " and not " + told, 0, 1);
        }
    }

    private static void goodTexts() {
        good("circles 2", 1, "2 0 0 0 0 0 0 1 0  circle 4 1 circle 6 0");
        good("circles6;time 5 20;cost 4 9", 3, "6 0 0 0 0 0 0 1 0  circle 4 1 circle 6 1 circle 8 1 circle 10 1 circle 12 9 circle 20 0");
        good("  circles  02  ;  circles3 ", 2, "3 0 0 0");
        good("ship 5 3 9 drops 99", 1, "4 1 0 0 99 0 0 1 0 ship 5 3 9 99 0");
        good("ship 0 0 0drops7;ship 4 1 05", 2, "4 2 0 0 7 0 0 1 0 ship 0 0 0 7 0ship 4 1 5 0 0");
        good("ship 0 0 0;step 60;step 1", 3, "4 1 61 0 0 0 0 1 0 ship 0 0 1 0 0");
        good("ship 3 0 0;ship 3 0 0;ship 0 1 0;step 3;ship 0 0 3;step 2", 6, "4 4 5 9 0");
        good("ship 0 1 0;time 0 2;ship 0 0 1", 3, "4 2 0 0");
    }

    /** In a new object; the place in the text is where the FAULT is. */
    private static void fault(String text, int place) {
        // what is seen of an object has THE TAPE's size: it is empty ahead and behind
        check.refused(text, x -> { }, x -> Check.feed(x, text), -20 - place, Check.BAD);
    }

    private static void faults() {
        fault("", 0);
        fault("   ", 3);
        fault(";", 0);
        fault("7", 0);
        fault("circle 3", 0);
        fault("circless 3", 0);
        fault("Circles 3", 0);
        fault("drops 3", 0);
        fault("circles", 7);
        fault("circles  ", 9);
        fault("circles ;", 8);
        fault("circles x", 8);
        fault("circles 1", 8);
        fault("circles 7", 8);
        fault("circles 003", 8);
        fault("circles 3;", 10);
        fault("circles 3 ; ", 12);
        fault("circles 3;;", 10);
        fault("circles 3 3", 10);
        fault("circles 3 time 0 5", 10);
        fault("circles 3,", 9);
        fault("circles 3\t", 9);
        fault("circles\n3", 7);
        fault("circles 3\u00ff", 9);
        fault(" \u0000circles 3", 1);
        fault("time 4 5", 5);
        fault("circles 3;time 3 5", 15);
        fault("time 0 1", 7);
        fault("time 0 21", 7);
        fault("time 0", 6);
        fault("time 05", 5);
        fault("cost 3 1", 5);
        fault("circles 2;cost 1 1", 15);
        fault("cost 0 0", 7);
        fault("cost 0 10", 7);
        fault("ship 6 0 0", 5);
        fault("ship 0 4 0", 7);
        fault("ship 0 0 4", 9);
        fault("ship 0 0 0 drops", 16);
        fault("ship 0 0 0 drops 100", 17);
        fault("ship 0 0 0 drops;", 16);
        fault("ship 0 0 0 drops 5 drops 6", 19);
        fault("ship 0 0 0 drop 5", 11);
        fault("ship 0 0 0 5", 11);
        fault("step 0", 5);
        fault("step 61", 5);
        fault("step -1", 5);
        fault("step 1;step 1;stop", 14);
        fault("circles 9;\u0001", 8);
    }

    private static void faultsOfWhatThereIs() {
        fault("ship 0 1 0;circles 3", 11);
        fault("ship 0 1 0;circles", 11);
        fault("ship 0 1 0;circles 9", 11);
        fault("ship 0 1 0;time 1 5", 16);
        fault("ship 0 1 0;time 1", 16);
        fault("ship 0 1 0;time 2", 17);
        String six = "ship 0 0 0;".repeat(6);
        fault(six + "ship 0 0 0", 66);
        fault(six + "ship", 66);
        fault(six + "ship 9", 66);
        FasterToBeLater x = Check.read("ship 1 0 0 drops 3");
        x.change(0, 1);
        check.due("time of the circle that a busy one comes to", Check.feed(x, "time 1 5"), -25);
        check.due("time of the circle that it left", Check.feed(x, "time 0 5"), 1);
        check.due("step in a text", Check.feed(x, "step 2"), 1);
        check.due("it isn't busy then", x.shipOf(0, 4), 0);
        check.due("one was refused", x.status(12), 1);
    }

    private static void allOrNothing() {
        String before = Check.told(Check.read("ship 3 0 0;ship 3 0 0 drops 8;cost 1 4;step 4"));
        FasterToBeLater x = Check.read("ship 3 0 0;ship 3 0 0 drops 8;cost 1 4;step 4");
        check.due("four hits", x.status(3), 4);
        check.due("a fault behind much", Check.feed(x, "cost 1 9;time 3 3;ship 0 3 2;step 9;cost 9 9"), -20 - 41);
        check.due("nothing came of it", Check.told(x).equals(before) ? 1 : 0, 1);
        check.due("it was refused", x.status(12), 1);
        check.due("and now it comes", Check.feed(x, "cost 1 9;time 3 3;ship 0 3 2;step 9"), 4);
        check.due("cost", x.circleOf(1, 1), 9);
        check.due("time", x.circleOf(3, 0), 3);
        check.due("ships", x.status(1), 3);
        check.due("place", x.shipOf(2, 2), 2);
        check.due("steps", x.status(2), 13);
        check.due("hits", x.status(3), 13);
    }
}
