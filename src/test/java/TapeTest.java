import java.util.function.Consumer;

/** Promises 14 to 16: feed, wipe, world; and what the Terms say of THE TAPE. */
public final class TapeTest {
    private static final Check check = new Check("TapeTest");
    private static final String SIX = "ship 0 0 0;".repeat(6);

    public static void main(String[] args) {
        roomOfTheTape();
        tokens();
        strayBytes();
        statements();
        circles();
        time();
        cost();
        ship();
        step();
        allOrNothing();
        faults();
        numbers();
        circlesWithShips();
        timeWithShips();
        noRoom();
        bytesThatBeginNone();
        endsTooEarly();
        feed();
        wipe();
        world();
        check.end();
    }

    private static void nothing(FasterToBeLater x) {
    }

    /** In a new object; the place in the text is where the FAULT is. */
    private static void fault(String text, int place) {
        fault(TapeTest::nothing, text, place);
    }

    private static void fault(Consumer<FasterToBeLater> setting, String text, int place) {
        check.refused(text, setting, x -> Check.feed(x, text), -20 - place, Check.BAD);
    }

    /** In a new object; what is told of it behind the text begins so. */
    private static void good(String text, int statements, String told) {
        FasterToBeLater x = new FasterToBeLater();
        check.due(text, Check.feed(x, text), statements);
        check.due(text + ": tape", x.status(6), 0);
        for (int what = 12; what <= 16; what++) {
            check.due(text + ": refusals", x.status(what), 0);
        }
        String seen = Check.told(x);
        check.same(text, seen.substring(0, Math.min(told.length(), seen.length())), told);
    }

    private static void roomOfTheTape() {
        check.of(Check.TERMS, "A WORLD is read from THE TAPE (bytes, 250 at most).");
        FasterToBeLater x = new FasterToBeLater();
        for (int i = 1; i <= 250; i++) {
            check.due("byte " + i, x.feed(' '), i);
        }
        check.refused("byte 251", y -> Check.letters(y, " ".repeat(250)), y -> y.feed(' '), Check.FULL);
        String text = "circles 3;cost 1 9";
        good(" ".repeat(250 - text.length()) + text, 2, "3 0 0 0 0 0 0 1 0  circle 4 1 circle 6 9 circle 8 0");
        fault(" ".repeat(249) + "!", 249);
        fault(" ".repeat(250), 250);
        fault(" ".repeat(249) + ";", 249);
        fault(" ".repeat(243) + "circles", 250);
        FasterToBeLater full = new FasterToBeLater();
        Check.letters(full, " ".repeat(241) + "circles 3");
        full.feed('9');
        check.due("what didn't come on it isn't read", full.world(), 1);
    }

    private static void tokens() {
        check.of(Check.TERMS, "TOKENS, each as long as can be: WORDS (a .. z), NUMBERS (digits), the SIGN ; - blanks (32) may stand anywhere between.");
        good("circles3", 1, "3 ");
        good("circles6;time5 20;cost4 9", 3, "6 0 0 0 0 0 0 1 0  circle 4 1 circle 6 1 circle 8 1 circle 10 1 circle 12 9 circle 20 0");
        good("   circles   3   ;   circles   4   ", 2, "4 ");
        good("ship 0 0 0drops7;ship4 1 05", 2, "4 2 0 0 7 0 0 1 0 ship 0 0 0 7 0ship 4 1 5 0 0");
        good(" ship  5  3  9  drops  99  ", 1, "4 1 0 0 99 0 0 1 0 ship 5 3 9 99 0");
        fault("circ les 3", 0);
        fault("circlescircles 3", 0);
        fault("circles 3drops", 9);
        fault("ship 000", 5);
        fault("ship 0 00", 9);
        fault("time 05", 5);
        fault("time 03", 7);
        fault("time 50", 5);
        fault("step 1 2", 7);
        fault("step 6 0 0", 7);
        fault("ship 0 0 0 drop s 5", 11);
        fault("ship 0 0 0 dropss 5", 11);
    }

    /** Each byte ahead of, in and behind a text: only a blank, or what belongs to a TOKEN, may stand there. */
    private static void strayBytes() {
        for (int b = 0; b < 256; b++) {
            boolean isLetter = b >= 97 && b <= 122;
            boolean isDigit = b >= 48 && b <= 57;
            String text = String.valueOf((char) b);
            check.due("byte " + b + " ahead", read(text + "circles 3"), b == 32 ? 1 : -20);
            int inside = b == 32 || b == 48 ? 1 : isLetter ? -20 : -27;
            check.due("byte " + b + " ahead of the number", read("circles" + text + "3"), inside);
            int within = b == 32 || b == 59 ? -30 : isDigit ? -28 : -29;
            check.due("byte " + b + " in the number", read("circles 3" + text + "3"), within);
            int behind = b == 32 ? 1 : isDigit ? -28 : b == 59 ? -30 : -29;
            check.due("byte " + b + " behind", read("circles 3" + text), behind);
        }
    }

    private static int read(String text) {
        return Check.feed(new FasterToBeLater(), text);
    }

    private static void statements() {
        check.of(Check.TERMS, "STATEMENTS, one or more, with ; between");
        good("circles 3", 1, "3 ");
        good("circles 3;circles 5", 2, "5 ");
        good("step1;".repeat(40) + "step1", 41, "4 0 41 ");
        fault("", 0);
        fault("   ", 3);
        fault(";", 0);
        fault(";circles 3", 0);
        fault("circles 3;", 10);
        fault("circles 3 ; ", 12);
        fault("circles 3;;circles 3", 10);
        fault("circles 3 ; ;", 12);
        fault("circles 3 circles 3", 10);
        fault("circles 3 3", 10);
    }

    private static void circles() {
        check.of(Check.TERMS, "circles N (only if there are no SHIPS)");
        for (int n = 0; n <= 99; n++) {
            if (n >= 2 && n <= 6) {
                good("circles " + n, 1, n + " 0 0 0");
            } else {
                fault("circles " + n, 8);
            }
        }
        fault("circles 3;ship 0 0 0;circles 3", 21);
        fault(Check.text("ship 2 0 0"), "circles 3", 0);
    }

    private static void time() {
        check.of(Check.TERMS, "time C N (only if no SHIP has that CIRCLE)");
        good("time 0 2;time 1 20", 2, "4 0 0 0 0 0 0 1 0  circle 2 1 circle 20 1 circle 8 1 circle 10 0");
        fault("time 0 1", 7);
        fault("time 0 0", 7);
        fault("time 0 21", 7);
        fault("time 0 99", 7);
        good("time 3 2", 1, "4 0");
        fault("time 4 2", 5);
        good("circles 2;time 1 2", 2, "2 0");
        fault("circles 2;time 2 2", 15);
        good("circles 6;time 5 2", 2, "6 0");
        fault("circles 6;time 6 2", 15);
        fault("ship 0 1 0;time 1 5", 16);
        good("ship 0 1 0;time 0 2;ship 0 0 1", 3, "4 2 0 0 0 0 0 1 0 ship 0 1 0 0 0ship 0 0 1 0 0 circle 2 1");
        FasterToBeLater x = Check.read("ship 1 0 0 drops 3");
        x.change(0, 1);
        check.due("of the CIRCLE that a BUSY one comes to", Check.feed(x, "time 1 5"), -25);
        check.due("of the CIRCLE that it left", Check.feed(x, "time 0 5"), 1);
        check.due("it is", x.circleOf(0, 0), 5);
    }

    private static void cost() {
        check.of(Check.TERMS, "cost C N (C 0 to n less 2)");
        good("cost 0 1;cost 2 9", 2, "4 0 0 0 0 0 0 1 0  circle 4 1 circle 6 1 circle 8 9 circle 10 0");
        fault("cost 3 1", 5);
        fault("cost 0 0", 7);
        fault("cost 0 10", 7);
        good("circles 2;cost 0 9", 2, "2 0");
        fault("circles 2;cost 1 1", 15);
        good("circles 6;cost 4 9", 2, "6 0");
        fault("circles 6;cost 5 1", 15);
        good("ship 0 0 0;cost 0 9", 2, "4 1");
    }

    private static void ship() {
        check.of(Check.TERMS, "ship K C P, perhaps drops N");
        good("ship 5 3 9", 1, "4 1 0 0 0 0 0 1 0 ship 5 3 9 0 0");
        good("ship 0 0 0 drops 0", 1, "4 1 0 0 0 0 0 1 0 ship 0 0 0 0 0");
        good("ship 0 0 3 drops 99", 1, "4 1 0 0 99 0 0 1 0 ship 0 0 3 99 0");
        good("ship 0 0 0 drops 5;ship 0 0 1", 2, "4 2 0 0 5 0 0 1 0 ship 0 0 0 5 0ship 0 0 1 0 0");
        fault("ship 6 0 0", 5);
        fault("ship 0 4 0", 7);
        fault("ship 0 0 4", 9);
        fault("ship 0 3 10", 9);
        fault("time 3 2;ship 0 3 2", 18);
        good("time 3 20;ship 0 3 19", 2, "4 1 0 0 0 0 0 1 0 ship 0 3 19 0 0");
        fault("time 3 20;ship 0 3 20", 19);
        fault("circles 2;ship 0 2 0", 17);
        good("circles 6;ship 0 5 13", 2, "6 1");
        fault("ship 0 0 0 drops 100", 17);
        fault("ship 0 0 0 drops;", 16);
        fault("ship 0 0 0 drops 5 drops 6", 19);
        fault("ship 0 0 0 5", 11);
        fault("ship drops 5", 5);
        fault("drops 5", 0);
        good("ship 3 0 0;".repeat(5) + "ship 3 0 0", 6, "4 6");
    }

    private static void step() {
        check.of(Check.TERMS, "step N (1 to 60 steps in truth).");
        fault("step 0", 5);
        fault("step 61", 5);
        fault("step 99", 5);
        good("step 1", 1, "4 0 1 0");
        good("step 60;step 60", 2, "4 0 120 0");
        good("ship 3 0 0;ship 3 0 3;ship 0 0 3;step 1", 4, "4 3 1 1 0 0 0 1 0 ship 3 0 1 0 0ship 3 0 0 0 0ship 0 0 0 0 0");
        good("ship 3 0 0;ship 3 0 0;ship 0 1 0;step 3;ship 0 0 3;step 2", 6, "4 4 5 9 0");
        FasterToBeLater x = Check.read("ship 1 0 0 drops 3");
        x.change(0, 1);
        Check.feed(x, "step 1");
        check.due("BUSY is less", x.shipOf(0, 4), 1);
        Check.feed(x, "step 2");
        check.due("and it goes round then", x.shipOf(0, 2), 4);
    }

    private static void allOrNothing() {
        check.of(Check.TERMS, "All comes to what there is, or nothing.");
        Consumer<FasterToBeLater> set = Check.text("ship 3 0 0;ship 3 0 0 drops 8;cost 1 4;step 4");
        String text = "cost 1 9;time 3 3;ship 0 3 2;step 9";
        fault(set, text + ";cost 9 9", 41);
        fault(set, text + ";", 36);
        fault(set, text + " 9", 36);
        fault(TapeTest::nothing, "circles 6;time 5 9;cost 4 9;circles 2;x", 38);
        FasterToBeLater x = Check.made(set);
        check.due("four HITS", x.status(3), 4);
        check.due("a FAULT behind much", Check.feed(x, text + ";cost 9 9"), -20 - 41);
        check.due("and now it comes", Check.feed(x, text), 4);
        int[] got = {x.circleOf(1, 1), x.circleOf(3, 0), x.status(1), x.shipOf(2, 2), x.status(2), x.status(3), x.shipOf(1, 3)};
        int[] due = {9, 3, 3, 2, 13, 13, 8};
        for (int i = 0; i < due.length; i++) {
            check.due("of all that, " + i, got[i], due[i]);
        }
    }

    private static void faults() {
        check.of(Check.TERMS, "The FAULT: the place of the first byte of the first TOKEN that can't stand there");
        String[] first = {"7", "circle 3", "circless 3", "drops 3", "x", "times 0 5", "tim 0 5", "costs 0 1", "cos 0 1", "ships 0 0 0", "shi 0 0 0",
            "steps 1", "ste 1", "a", "z"};
        for (String text : first) {
            fault(text, 0);
            fault("  " + text, 2);
            fault("step 1;" + text, 7);
        }
        almostWords();
        fault("circles x", 8);
        fault("circles circles", 8);
        fault("circles ;", 8);
        fault("circles 3 time 0 5", 10);
        fault("time x 5", 5);
        fault("time 0 x", 7);
        fault("time ;", 5);
        fault("time 0;", 6);
        fault("time 0 5 5", 9);
        fault("cost x 1", 5);
        fault("cost 0 x", 7);
        fault("cost 0 1 1", 9);
        fault("ship x", 5);
        fault("ship 0 x", 7);
        fault("ship 0 0 x", 9);
        fault("ship 0 0;", 8);
        fault("ship 0 0 0 x", 11);
        fault("ship 0 0 0 drops x", 17);
        fault("step x", 5);
        fault("step ;", 5);
        fault("step 1;step 1;stop", 14);
        // the first of several
        fault("circles 9;time 9 99", 8);
        fault("time 4 99", 5);
        fault("ship 6 9 9 drops 100", 5);
        fault("circles 9 !", 8);
    }

    /** Each word with one letter that is another: the next one, and the one ahead of it. */
    private static void almostWords() {
        String[] texts = {"circles 3", "time 0 5", "cost 0 1", "ship 0 0 0", "step 1"};
        for (String text : texts) {
            check.due(text, read(text), 1);
            for (int i = 0; i < text.indexOf(' '); i++) {
                check.due("almost " + text, read(almost(text, i, 1)), -20);
                check.due("almost " + text, read(almost(text, i, -1)), -20);
            }
        }
        for (int i = 11; i < 16; i++) {
            check.due("almost drops", read(almost("ship 0 0 0 drops 5", i, 1)), -31);
            check.due("almost drops", read(almost("ship 0 0 0 drops 5", i, -1)), -31);
        }
    }

    private static String almost(String text, int at, int on) {
        return text.substring(0, at) + (char) (text.charAt(at) + on) + text.substring(at + 1);
    }

    private static void numbers() {
        check.of(Check.TERMS, "(also a NUMBER that may not be, or has more than 2 digits");
        fault("circles 1", 8);
        fault("circles 7", 8);
        fault("step 61", 5);
        good("circles 03", 1, "3 ");
        fault("circles 003", 8);
        fault("step 001", 5);
        fault("step 100", 5);
        fault("step 4294967297", 5);
        fault("step 18446744073709551617", 5);
        good("cost 00 09", 1, "4 0 0 0 0 0 0 1 0  circle 4 9");
        fault("cost 000 9", 5);
        fault("cost 0 009", 7);
        fault("ship 000 0 0", 5);
        fault("ship 0 000 0", 7);
        fault("ship 0 0 000", 9);
        fault("ship 0 0 0 drops 000", 17);
        fault("time 000 5", 5);
        fault("time 0 005", 7);
        good("ship 05 03 09 drops 09", 1, "4 1 0 0 9 0 0 1 0 ship 5 3 9 9 0");
    }

    private static void circlesWithShips() {
        check.of(Check.TERMS, "circles, if there are SHIPS: its word");
        fault("ship 0 1 0;circles 3", 11);
        fault("ship 0 1 0;  circles 3", 13);
        fault("ship 0 1 0;circles", 11);
        fault("ship 0 1 0;circles 9", 11);
        fault("ship 0 1 0;circles;", 11);
        fault(Check.text("ship 4 0 0"), " circles 4", 1);
    }

    private static void timeWithShips() {
        check.of(Check.TERMS, "time of such a CIRCLE: C");
        fault("ship 0 1 0;time 1 5", 16);
        fault("ship 0 1 0;time  01  6", 17);
        fault("ship 0 1 0;time 1", 16);
        fault("ship 0 1 0;time 1 99", 16);
        fault("ship 0 1 0;time 2", 17);
        fault(Check.text("ship 4 3 0"), "time 3 10", 5);
    }

    private static void noRoom() {
        check.of(Check.TERMS, "what there is no room for: its word");
        fault(SIX + "ship 0 0 0", 66);
        fault(SIX + "   ship 0 0 0", 69);
        fault(SIX + "ship", 66);
        fault(SIX + "ship 9", 66);
        fault(SIX + "ship 0 0 0;step 0", 66);
        Consumer<FasterToBeLater> five = x -> x.bolts(5);
        fault(five, "ship 0 0 0;ship 0 0 0", 11);
        check.taken("a sixth", five, x -> Check.feed(x, "ship 0 0 0;step 1"), 2);
        fault(x -> x.bolts(6), "ship 0 0 0", 0);
        check.taken("with six, others may stand", x -> x.bolts(6), x -> Check.feed(x, "step 1;cost 0 2"), 2);
    }

    private static void bytesThatBeginNone() {
        check.of(Check.TERMS, "a byte that begins none)");
        fault("Circles 3", 0);
        fault("circles 3,", 9);
        fault("circles 3\t", 9);
        fault("circles\n3", 7);
        fault("circles 3\u00ff", 9);
        fault(" \u0000circles 3", 1);
        fault("step -1", 5);
        fault("circles 3:", 9);
        fault("circles 3<", 9);
        fault("circles 3/", 9);
        fault("step 1;`", 7);
        fault("step 1;{", 7);
        fault("step 1;@", 7);
        fault("step 1;[", 7);
        fault("circles 9;\u0001", 8);
        fault(SIX + "ship!", 66);
    }

    private static void endsTooEarly() {
        check.of(Check.TERMS, "THE TAPE's size, if it ends too early.");
        String[] early = {"", " ", "circles", "circles ", "time", "time 0", "time 0  ", "cost", "cost 0", "ship", "ship 0", "ship 0 0", "ship 0 0 0 drops",
            "ship 0 0 0 drops ", "step", "step 1;", "step 1 ; "};
        for (String text : early) {
            fault(text, text.length());
        }
        fault(Check.text("ship 0 0 0"), "ship 0 0", 8);
    }

    private static void feed() {
        check.of(14, "THE TAPE gets one byte (0 to 255) behind it: its size.");
        FasterToBeLater x = new FasterToBeLater();
        check.due("feed(0)", x.feed(0), 1);
        check.due("feed(255)", x.feed(255), 2);
        check.due("status(6)", x.status(6), 2);
        check.of(14, "BAD; FULL.");
        check.span("feed letter", y -> y.feed(7), (y, letter) -> y.feed(letter), 0, 255);
        Consumer<FasterToBeLater> full = y -> Check.letters(y, " ".repeat(250));
        check.refused("full", full, y -> y.feed(0), Check.FULL);
        check.refused("full", full, y -> y.feed(255), Check.FULL);
        check.refused("full, and 256", full, y -> y.feed(256), Check.BAD);
        check.refused("full, and -1", full, y -> y.feed(-1), Check.BAD);
        check.taken("the last one", y -> Check.letters(y, " ".repeat(249)), y -> y.feed(0), 250);
    }

    private static void wipe() {
        check.of(15, "THE TAPE is empty: its size ahead.");
        check.only("of none", TapeTest::nothing, x -> x.wipe(), 0);
        FasterToBeLater x = Check.made(y -> Check.letters(y, " ".repeat(250)));
        check.due("of 250", x.wipe(), 250);
        check.due("it is empty", x.status(6), 0);
        check.due("once more", x.wipe(), 0);
        check.due("there is room again", x.feed('s'), 1);
        x.wipe();
        check.due("what was wiped isn't read", Check.feed(x, "step 2"), 1);
        check.due("nothing else came of it", x.status(2), 2);
    }

    private static void world() {
        check.of(16, "THE TAPE is a WORLD: how many STATEMENTS; -20 less the FAULT (that is refused, too: BAD).");
        check.taken("one", TapeTest::nothing, x -> Check.feed(x, "circles 3"), 1);
        check.taken("three", TapeTest::nothing, x -> Check.feed(x, "circles 3;step 1;cost 0 2"), 3);
        fault("", 0);
        fault("circles 3;", 10);
        fault(" ".repeat(250), 250);
        check.of(16, "THE TAPE is empty then, either way.");
        FasterToBeLater x = new FasterToBeLater();
        Check.feed(x, "circles 3;step 1");
        check.due("behind a good one", x.status(6), 0);
        check.due("it isn't read again", x.world(), -20);
        Check.feed(x, "circles 9;step 1");
        check.due("behind a bad one", x.status(6), 0);
        check.due("that isn't read again", x.world(), -20);
        check.due("a shorter one behind a longer one", Check.feed(x, "step 1;"), -27);
        check.due("refusals", x.status(12), 4);
        check.due("T", x.status(2), 1);
    }
}
