import java.util.function.Consumer;

/** Promises 30 to 36: again, pass, queue, fullest, clash, burnt, tag; and what the Terms say of them. */
public final class DriftTest {
    private static final Check check = new Check("DriftTest");
    private static final int MOST = Integer.MAX_VALUE;
    private static final int LEAST = Integer.MIN_VALUE;

    public static void main(String[] args) {
        again();
        againOfTwo();
        pass();
        passAtTheLastStep();
        passRefusals();
        queue();
        queueRefusals();
        fullest();
        clash();
        clashRefusals();
        sightings();
        burnt();
        burntRefusals();
        tag();
        tagKnowingIt();
        tagInTruth();
        tagRefusals();
        check.end();
    }

    private static void again() {
        check.of(Check.TERMS, "AGAIN: behind how many STEPS all that drift are as they are now (the least number above 0; long); NONE: one is BUSY, or there are none.");
        check.only("with one", Check.text("ship 4 3 0"), x -> x.again(), 10);
        check.only("with an odd one", Check.text("time 1 7;ship 4 1 3"), x -> x.again(), 7);
        check.only("with two on one CIRCLE", Check.text("ship 4 3 0;ship 0 3 1"), x -> x.again(), 10);
        check.only("4 and 6 and 10", Check.text("ship 4 0 0;ship 0 1 1;ship 2 3 1"), x -> x.again(), 60);
        Consumer<FasterToBeLater> six = Check.text(
            "circles 6;time 0 15;time 1 19;time 2 17;time 3 13;time 4 11;time 5 16;"
            + "ship 0 0 0;ship 0 1 0;ship 0 2 0;ship 0 3 0;ship 0 4 0;ship 0 5 0");
        check.only("the most there is", six, x -> x.again(), 15L * 19 * 17 * 13 * 11 * 16);
        check.of(30, "AGAIN; NONE.");
        check.only("with none", x -> { }, x -> x.again(), Check.NONE);
        Consumer<FasterToBeLater> busy = Check.text("ship 4 0 0;ship 0 0 1 drops 9").andThen(x -> x.change(1, 1));
        check.only("with a BUSY one", busy, x -> x.again(), Check.NONE);
        check.only("BUSY for one STEP still", busy.andThen(x -> x.step(1)), x -> x.again(), Check.NONE);
        check.only("when it has come", busy.andThen(x -> x.step(2)), x -> x.again(), 12);
        check.only("the first one is BUSY", Check.text("ship 0 0 1 drops 9;ship 4 0 0").andThen(x -> x.change(0, 1)), x -> x.again(), Check.NONE);
    }

    private static void againOfTwo() {
        for (int a = 2; a <= 20; a++) {
            for (int b = 2; b <= 20; b++) {
                FasterToBeLater x = new FasterToBeLater();
                x.time(0, a);
                x.time(1, b);
                x.ship(0, 0, 0, 0);
                x.ship(0, 1, 1, 0);
                int due = 1;
                while (due % a != 0 || due % b != 0) {
                    due++;
                }
                check.due("TIMES " + a + " and " + b, x.again(), due);
            }
        }
    }

    private static void pass() {
        check.of(Check.TERMS, "at which two that drift are in one direction: PLACE of the one times the TIME of the other is the same both ways (BUSY ones count, too); NONE.");
        Consumer<FasterToBeLater> set = Check.text("circles 2;time 0 4;time 1 6;ship 0 0 1;ship 0 1 2;ship 0 0 1;ship 0 0 2;ship 0 1 0");
        // 1 times 6 and 2 times 4; then 2 times 6 and 3 times 4
        check.only("at the next STEP", set, x -> x.pass(0, 1), 1);
        check.only("now", set, x -> x.pass(0, 2), 0);
        check.only("never on one CIRCLE", set, x -> x.pass(0, 3), Check.NONE);
        // PLACE 2 of 4 and 3 of 6 is at STEPS that are 1 modulo 4 and 3 modulo 6; 0 and 0 never is
        check.only("at a later STEP", set, x -> x.pass(0, 4), 9);
        check.only("the other way", set, x -> x.pass(4, 0), 9);
        // BUSY ones stay at the PLACE that they come to
        Consumer<FasterToBeLater> busy = Check.text("circles 2;time 0 4;time 1 20;ship 0 1 0 drops 9;ship 4 0 0;ship 4 0 2").andThen(x -> x.change(0, 2));
        check.only("a BUSY one counts", busy, x -> x.pass(0, 2), 0);
        check.only("and stays while it is", busy, x -> x.pass(0, 1), 2);
        check.only("the other is BUSY", busy, x -> x.pass(1, 0), 2);
    }

    private static void passAtTheLastStep() {
        check.of(Check.TERMS, "PASS: the first STEP from 0 on, both TIMES times each other less 1 at most");
        // TIMES without a common divisor: in one direction only when both are at 0, a STEP ahead of all rounds of both
        check.only("2 and 3", Check.text("time 0 2;time 1 3;ship 0 0 1;ship 0 1 1"), x -> x.pass(0, 1), 5);
        check.only("20 and 19", Check.text("time 0 20;time 1 19;ship 0 0 1;ship 0 1 1"), x -> x.pass(0, 1), 379);
        check.only("20 and 19, now", Check.text("time 0 20;time 1 19;ship 0 0 0;ship 0 1 0"), x -> x.pass(0, 1), 0);
        // it comes from PLACE 0 of 3 to PLACE 1 of 2, BUSY 1: at 0 at the even STEPS from 2 on. The others are at 0 at
        // the STEPS 0 and 3 and 6, or 1 and 4: the first STEP for the one would be 6, and 5 is the last
        Consumer<FasterToBeLater> busy = Check.text("time 0 2;time 1 3;ship 0 1 0 drops 1;ship 4 1 0;ship 4 1 2").andThen(x -> x.change(0, 2));
        check.only("a STEP behind the last", busy, x -> x.pass(0, 1), Check.NONE);
        check.only("a STEP behind the last, the other way", busy, x -> x.pass(1, 0), Check.NONE);
        check.only("ahead of the last", busy, x -> x.pass(0, 2), 4);
        check.only("a STEP later it is the last", busy.andThen(x -> x.step(1)), x -> x.pass(0, 1), 5);
        check.of(31, "PASS; NONE.");
        check.only("of 20, never", Check.text("time 0 20;ship 0 0 0;ship 0 0 19"), x -> x.pass(0, 1), Check.NONE);
        check.only("of 20, now", Check.text("time 0 20;ship 0 0 19;ship 0 0 19"), x -> x.pass(0, 1), 0);
    }

    private static void passRefusals() {
        check.of(31, "BAD: also one twice. (NONE isn't refused.)");
        Consumer<FasterToBeLater> set = Check.text("ship 0 0 1;ship 0 0 2;ship 0 1 3");
        check.span("pass ship", set, (x, ship) -> x.pass(ship, 2), 0, 1);
        check.span("pass other", set, (x, other) -> x.pass(0, other), 1, 2);
        for (int i = 0; i < 4; i++) {
            int ship = i;
            check.refused("one twice", set, x -> x.pass(ship, ship), Check.BAD);
        }
        check.refused("one that isn't", set, x -> x.pass(3, 0), Check.BAD);
        check.refused("another that isn't", set, x -> x.pass(0, 3), Check.BAD);
        check.only("NONE", set, x -> x.pass(0, 1), Check.NONE);
    }

    private static void queue() {
        check.of(Check.TERMS, "QUEUE of a STATION: SHIPS (bits) on its CIRCLE, not BUSY, whose PLACE is less than g from its own, either way round (itself not).");
        Consumer<FasterToBeLater> set = Check.text("ship 4 3 1;ship 0 3 1;ship 2 3 3;ship 3 3 8;ship 0 3 6;ship 1 2 1 drops 9");
        int[] due = {0, 2, 2, 6, 14, 14, 30, 30};
        for (int g = 0; g < due.length; g++) {
            int wide = g;
            check.only("queue(0, " + g + ")", set, x -> x.queue(0, wide), due[g]);
        }
        check.only("queue(0, 20)", set, x -> x.queue(0, 20), 30);
        Consumer<FasterToBeLater> stations = Check.text("ship 0 0 0;ship 4 0 1;ship 4 0 3");
        check.only("the first SHIP may be in it", stations, x -> x.queue(1, 2), 1);
        check.only("another STATION, too", stations, x -> x.queue(1, 3), 5);
        check.only("itself not", Check.text("ship 4 0 0"), x -> x.queue(0, 20), 0);
        Consumer<FasterToBeLater> comes = Check.text("ship 4 1 0;ship 0 0 0 drops 9").andThen(x -> x.change(1, 1));
        check.only("one that comes isn't in it", comes, x -> x.queue(0, 20), 0);
        check.only("when it has come, it is", comes.andThen(x -> x.step(2)), x -> x.queue(0, 20), 2);
        check.only("one that has left isn't", Check.text("ship 4 0 0;ship 0 0 0 drops 9").andThen(x -> x.change(1, 1)), x -> x.queue(0, 20), 0);
        for (int time = 2; time <= 20; time++) {
            for (int other = 0; other < time; other++) {
                FasterToBeLater x = new FasterToBeLater();
                x.time(0, time);
                x.ship(4, 0, time - 1, 0);
                x.ship(0, 0, other, 0);
                int apart = Math.min(time - 1 - other, other + 1);
                check.due("at " + other + " of " + time + ", g " + apart, x.queue(0, apart), 0);
                check.due("at " + other + " of " + time + ", g " + (apart + 1), x.queue(0, apart + 1), 2);
            }
        }
    }

    private static void queueRefusals() {
        check.of(32, "QUEUE (g 0 to 20; bits).");
        Consumer<FasterToBeLater> set = x -> {
            for (int kind = 0; kind < 6; kind++) {
                x.ship(kind, 0, 0, 0);
            }
        };
        check.only("g 0", set, x -> x.queue(4, 0), 0);
        check.only("g 1", set, x -> x.queue(4, 1), 47);
        check.only("g 20", set, x -> x.queue(4, 20), 47);
        check.of(32, "BAD; STUCK: it is no STATION.");
        check.span("queue ship", set, (x, ship) -> x.queue(ship, 0), 0, 5);
        check.span("queue g", set, (x, g) -> x.queue(4, g), 0, 20);
        check.span("queue g, no STATION", set, (x, g) -> x.queue(0, g), 0, 20);
        for (int kind = 0; kind < 6; kind++) {
            int ship = kind;
            if (kind != 4) {
                check.refused("of KIND " + kind, set, x -> x.queue(ship, 1), Check.STUCK);
            }
        }
    }

    private static void fullest() {
        check.of(33, "The CIRCLE that most SHIPS have (BUSY ones, too), of several the first.");
        check.only("of none", x -> { }, x -> x.fullest(), 0);
        for (int c = 0; c < 6; c++) {
            check.only("of one", Check.text("circles 6;ship 0 " + c + " 0"), x -> x.fullest(), c);
        }
        check.only("one each", Check.text("ship 0 3 0;ship 0 2 0;ship 0 1 0"), x -> x.fullest(), 1);
        check.only("of several the first", Check.text("ship 0 3 0;ship 0 2 0;ship 0 2 1;ship 0 3 0"), x -> x.fullest(), 2);
        check.only("more on a later one", Check.text("ship 0 0 0;ship 0 3 0;ship 0 3 1;ship 0 1 0"), x -> x.fullest(), 3);
        check.only("six", Check.text("circles 6" + ";ship 3 5 0".repeat(6)), x -> x.fullest(), 5);
        Consumer<FasterToBeLater> busy = Check.text("ship 0 2 0 drops 9;ship 0 2 0;ship 0 3 0").andThen(x -> x.change(0, 1));
        check.only("BUSY ones count where they come to", busy, x -> x.fullest(), 3);
        check.only("a BUSY one alone", Check.text("ship 0 2 0 drops 9").andThen(x -> x.change(0, 1)), x -> x.fullest(), 3);
    }

    private static void clash() {
        check.of(Check.TERMS, "CLASH: the first STEP 0 to t at which any two that drift MEET (BUSY ones come to their CIRCLES); NONE.");
        check.only("of none", x -> { }, x -> x.clash(60), Check.NONE);
        check.only("of one", Check.text("ship 0 0 0"), x -> x.clash(60), Check.NONE);
        Consumer<FasterToBeLater> never = Check.text("ship 0 0 0;ship 0 0 1;ship 0 1 0");
        check.only("never", never, x -> x.clash(60), Check.NONE);
        check.only("now", never.andThen(x -> x.ship(3, 0, 1, 0)), x -> x.clash(0), 0);
        check.only("now, by 60", never.andThen(x -> x.ship(3, 0, 1, 0)), x -> x.clash(60), 0);
        Consumer<FasterToBeLater> comes = Check.text("ship 0 0 1 drops 3;ship 4 1 2").andThen(x -> x.change(0, 1));
        check.only("one that comes", comes, x -> x.clash(60), 2);
        check.only("just then", comes, x -> x.clash(2), 2);
        check.only("not yet", comes, x -> x.clash(1), Check.NONE);
        check.only("not while it is BUSY for one STEP", comes.andThen(x -> x.step(1)), x -> x.clash(0), Check.NONE);
        // from PLACE 0 of 20 to 2 of 4, BUSY for ten STEPS, the most there is
        Consumer<FasterToBeLater> ten = Check.text("time 1 20;ship 0 1 0 drops 3;ship 4 0 0").andThen(x -> x.change(0, 2));
        check.only("behind ten", ten, x -> x.clash(60), 10);
        check.only("by ten", ten, x -> x.clash(10), 10);
        check.only("by nine", ten, x -> x.clash(9), Check.NONE);
        check.only("two that come", Check.text("ship 0 0 1 drops 3;ship 1 0 1 drops 3").andThen(x -> x.change(0, 1)).andThen(x -> x.change(1, 1)),
            x -> x.clash(60), 2);
        check.only("the last two of six", Check.text("ship 0 0 0;ship 0 0 1;ship 0 0 2;ship 0 0 3;ship 0 1 1;ship 0 1 1"), x -> x.clash(0), 0);
    }

    private static void clashRefusals() {
        check.of(34, "CLASH; NONE.");
        Consumer<FasterToBeLater> never = Check.text("ship 0 0 0;ship 0 0 1");
        check.only("now", Check.text("ship 0 0 0;ship 0 0 0"), x -> x.clash(0), 0);
        check.of(34, "BAD t. (NONE isn't refused.)");
        check.span("clash t", never, (x, t) -> x.clash(t), 0, 60);
        check.span("clash t, with none", x -> { }, (x, t) -> x.clash(t), 0, 60);
        check.span("clash t, now", Check.text("ship 0 0 0;ship 0 0 0"), (x, t) -> x.clash(t), 0, 60);
        check.only("NONE", never, x -> x.clash(60), Check.NONE);
    }

    /** TIME 4 and 4, COST 3: each CHANGE takes 2 STEPS and keeps the direction of one that drifts. */
    private static Consumer<FasterToBeLater> sighted(long... threes) {
        return x -> {
            Check.feed(x, "circles 3;time 0 4;time 1 4;time 2 4;cost 0 3;cost 1 5;ship 0 0 0;ship 1 0 0;ship 2 0 0;ship 0 1 0 drops 99");
            Check.put(x, 0, 3, threes);
        };
    }

    private static void sightings() {
        check.of(Check.TERMS, "SIGHTINGS: a ROW of threes, STEP (not less than the one ahead; 60 at most), CIRCLE, PLACE");
        check.only("STEP 0", sighted(0, 0, 0), x -> x.burnt(0, 1, 0), 0);
        check.only("STEP 60", sighted(60, 0, 0), x -> x.burnt(0, 1, 0), 0);
        check.refused("STEP 61", sighted(61, 0, 0), x -> x.burnt(0, 1, 0), Check.BAD);
        check.refused("STEP -1", sighted(-1, 0, 0), x -> x.burnt(0, 1, 0), Check.BAD);
        check.only("the same STEP", sighted(4, 0, 0, 4, 0, 0), x -> x.burnt(0, 2, 0), 0);
        check.refused("a STEP one less", sighted(4, 0, 0, 3, 0, 3), x -> x.burnt(0, 2, 0), Check.BAD);
        check.refused("a STEP less than the one ahead, the third", sighted(0, 0, 0, 8, 0, 0, 4, 0, 0), x -> x.burnt(0, 3, 0), Check.BAD);
        check.refused("STEP 61, the second", sighted(60, 0, 0, 61, 0, 1), x -> x.burnt(0, 2, 0), Check.BAD);
        check.only("60 and 60", sighted(60, 0, 0, 60, 0, 0), x -> x.burnt(0, 2, 0), 0);
        long[] wrong = {-1, 3, 6, 127, 1L << 32, Long.MIN_VALUE, Long.MAX_VALUE};
        for (long circle : wrong) {
            check.refused("CIRCLE " + circle, sighted(0, circle, 0), x -> x.burnt(0, 1, 0), Check.BAD);
        }
        check.only("the last CIRCLE", sighted(60, 2, 0), x -> x.burnt(0, 1, 0), 8);
        long[] places = {-1, 4, 20, 1L << 32, Long.MIN_VALUE, Long.MAX_VALUE};
        for (long place : places) {
            check.refused("PLACE " + place, sighted(0, 0, place), x -> x.burnt(0, 1, 0), Check.BAD);
        }
        check.only("the last PLACE", sighted(3, 0, 3), x -> x.burnt(0, 1, 0), 0);
        long[] steps = {1L << 32, Long.MIN_VALUE, Long.MAX_VALUE, -(1L << 32)};
        for (long step : steps) {
            check.refused("STEP " + step, sighted(step, 0, 0), x -> x.burnt(0, 1, 0), Check.BAD);
        }
        Consumer<FasterToBeLater> wide = Check.text("time 3 20;ship 4 3 0").andThen(x -> Check.put(x, 0, 0, 19, 3, 19, 20, 3, 0, 20, 3, 20));
        check.only("PLACE 19 of 20, then 0", wide, x -> x.burnt(0, 2, 0), 0);
        check.refused("PLACE 20 of 20", wide, x -> x.burnt(0, 3, 0), Check.BAD);
    }

    private static void burnt() {
        check.of(Check.TERMS, "a SHIP was there then, not BUSY: the fewest drops by which it can be so, from how it is (whatever it has); NONE.");
        check.only("elsewhere now", sighted(0, 0, 1), x -> x.burnt(0, 1, 0), Check.NONE);
        check.only("here later", sighted(5, 0, 1), x -> x.burnt(0, 1, 0), 0);
        check.only("above", sighted(2, 1, 2), x -> x.burnt(0, 1, 0), 3);
        check.only("above, a TUG", sighted(2, 1, 2), x -> x.burnt(0, 1, 1), 2);
        check.only("above, a PARCEL", sighted(2, 1, 2), x -> x.burnt(0, 1, 2), Check.NONE);
        check.only("above, too early", sighted(1, 1, 1), x -> x.burnt(0, 1, 0), Check.NONE);
        check.only("far above, just so soon", sighted(4, 2, 0), x -> x.burnt(0, 1, 0), 8);
        check.only("far above, too early", sighted(3, 2, 3), x -> x.burnt(0, 1, 0), Check.NONE);
        check.only("there and back", sighted(2, 1, 2, 4, 0, 0), x -> x.burnt(0, 2, 0), 6);
        check.only("only the first of these", sighted(2, 1, 2, 4, 0, 0), x -> x.burnt(0, 1, 0), 3);
        check.only("there and back too soon", sighted(2, 1, 2, 3, 0, 3), x -> x.burnt(0, 2, 0), Check.NONE);
        check.only("not BUSY then", sighted(0, 0, 0, 1, 0, 1, 3, 1, 3), x -> x.burnt(0, 3, 0), 3);
        check.only("it would be BUSY then", sighted(0, 0, 0, 1, 0, 1, 2, 1, 2), x -> x.burnt(0, 3, 0), Check.NONE);
        check.only("twice at one STEP", sighted(2, 1, 2, 2, 1, 2), x -> x.burnt(0, 2, 0), 3);
        check.only("at two PLACES at one STEP", sighted(2, 1, 2, 2, 1, 3), x -> x.burnt(0, 2, 0), Check.NONE);
        check.only("at two CIRCLES at one STEP", sighted(2, 1, 2, 2, 0, 2), x -> x.burnt(0, 2, 0), Check.NONE);
        long[] ten = new long[30];
        for (int i = 0; i < 10; i++) {
            ten[3 * i] = 4 * i;
            ten[3 * i + 1] = i % 2;
        }
        check.only("ten", sighted(ten), x -> x.burnt(0, 10, 0), 27);
        check.only("a BUSY one, when it has come", sighted(2, 2, 2).andThen(x -> x.change(3, 1)), x -> x.burnt(0, 1, 3), 0);
        check.only("a BUSY one, while it is", sighted(1, 2, 2).andThen(x -> x.change(3, 1)), x -> x.burnt(0, 1, 3), Check.NONE);
        check.only("a BUSY one, now", sighted(0, 2, 2).andThen(x -> x.change(3, 1)), x -> x.burnt(0, 1, 3), Check.NONE);
        // all TIMES 2: from the lowest CIRCLE to the highest and back nine times, 5 STEPS and 45 drops each
        Consumer<FasterToBeLater> far = x -> {
            Check.feed(x, "circles 6;time 0 2;time 1 2;time 2 2;time 3 2;time 4 2;time 5 2;cost 0 9;cost 1 9;cost 2 9;cost 3 9;cost 4 9;ship 0 0 0");
            x.row(0, 0, 30);
            for (int i = 0; i < 10; i++) {
                x.set(0, 3 * i, 5 * i);
                x.set(0, 3 * i + 1, i % 2 * 5);
                x.set(0, 3 * i + 2, i % 2);
            }
        };
        check.only("far more than it can have", far, x -> x.burnt(0, 10, 0), 405);
        check.only("the same, seen twice only", far, x -> x.burnt(0, 2, 0), 45);
        check.of(35, "SIGHTINGS of the first n threes (1 to 10) of the ROW in SHELF s; NONE.");
        check.only("one", far, x -> x.burnt(0, 1, 0), 0);
        check.only("nine", far, x -> x.burnt(0, 9, 0), 360);
        check.only("what is behind them isn't looked at", sighted(0, 0, 0, 99, 99, 99), x -> x.burnt(0, 1, 0), 0);
        Consumer<FasterToBeLater> booleans = sighted().andThen(x -> Check.put(x, 0, 4, 9, 0, 9));
        check.only("a ROW of booleans", booleans, x -> x.burnt(0, 1, 0), 0);
        Consumer<FasterToBeLater> bytes = sighted().andThen(x -> Check.put(x, 0, 0, 257, 256, 513));
        check.only("a ROW of bytes", bytes, x -> x.burnt(0, 1, 0), 0);
    }

    private static void burntRefusals() {
        check.of(35, "BAD SHELF, n, SHIP; OTHER; NOTHING; BAD: fewer elements, none such. (NONE isn't refused.)");
        Consumer<FasterToBeLater> set = sighted(new long[40]).andThen(x -> x.show(1, 0));
        int[] shelves = {-1, 8, LEAST, MOST};
        for (int s : shelves) {
            check.refused("SHELF " + s, set, x -> x.burnt(s, 1, 0), Check.BAD);
        }
        for (int s = 0; s <= 2; s++) {
            int shelf = s;
            check.span("burnt n, SHELF " + s, set, (x, n) -> x.burnt(shelf, n, 0), 1, 10);
            check.span("burnt ship, SHELF " + s, set, (x, ship) -> x.burnt(shelf, 1, ship), 0, 3);
        }
        check.refused("an n whose threes wrap to 2", set, x -> x.burnt(0, 1431655766, 0), Check.BAD);
        check.refused("a SHIP", set, x -> x.burnt(1, 1, 0), Check.OTHER);
        check.refused("a SHIP, n 10", set, x -> x.burnt(1, 10, 0), Check.OTHER);
        check.refused("NOTHING", set, x -> x.burnt(2, 1, 0), Check.NOTHING);
        check.refused("NOTHING, n 10", set, x -> x.burnt(2, 10, 0), Check.NOTHING);
        for (int n = 1; n <= 10; n++) {
            int threes = n;
            check.refused("one element too few for " + n, set.andThen(x -> x.row(0, 0, 3 * threes - 1)), x -> x.burnt(0, threes, 0), Check.BAD);
            check.only("just enough for " + n, set.andThen(x -> x.row(0, 0, 3 * threes)), x -> x.burnt(0, threes, 0), 0);
        }
        check.refused("an empty ROW", set.andThen(x -> x.row(0, 0, 0)), x -> x.burnt(0, 1, 0), Check.BAD);
        check.refused("none such, behind a sighting that can't be", sighted(0, 0, 1, 61, 0, 0), x -> x.burnt(0, 2, 0), Check.BAD);
        check.refused("none such, the tenth", sighted(new long[29]).andThen(x -> Check.put(x, 0, 3, last())), x -> x.burnt(0, 10, 0), Check.BAD);
        check.only("NONE", sighted(0, 0, 1), x -> x.burnt(0, 1, 0), Check.NONE);
    }

    /** Ten sightings, the last of which is at a PLACE that there isn't. */
    private static long[] last() {
        long[] threes = new long[30];
        threes[29] = 4;
        return threes;
    }

    private static void tag() {
        check.of(Check.TERMS, "TAG by t (0 to 5): whether a SHIP can MEET another at a STEP 0 to t, whatever that one does");
        // TIME 2 and 2: each CHANGE takes 1 STEP and keeps the direction; SHIP 0 and 1 in one direction
        Consumer<FasterToBeLater> set = Check.text(
            "circles 2;time 0 2;time 1 2;ship 0 0 0 drops 9;ship 0 1 0 drops 0;ship 0 1 0 drops 1;ship 4 1 0;ship 0 0 1 drops 9;ship 0 0 0 drops 9");
        check.only("now", set, x -> x.tag(0, 5, 0), 1);
        check.only("now, by 5", set, x -> x.tag(0, 5, 5), 1);
        check.only("not yet", set, x -> x.tag(0, 1, 0), 0);
        check.only("one that can't flee", set, x -> x.tag(0, 1, 1), 1);
        check.only("a STATION", set, x -> x.tag(0, 3, 1), 1);
        check.only("one in another direction", set, x -> x.tag(0, 4, 5), 0);
        // all TIMES 2: five CIRCLES up in five STEPS
        Consumer<FasterToBeLater> far = Check.text("circles 6;time 0 2;time 1 2;time 2 2;time 3 2;time 4 2;time 5 2;"
            + "ship 0 0 0 drops 5;ship 4 5 0;ship 0 0 0 drops 4");
        check.only("at STEP 5", far, x -> x.tag(0, 1, 5), 1);
        check.only("not by STEP 4", far, x -> x.tag(0, 1, 4), 0);
        check.only("one drop too few", far, x -> x.tag(2, 1, 5), 0);
    }

    private static void tagKnowingIt() {
        check.of(Check.TERMS, "ahead of each STEP first the one chooses a code, then the other, knowing it (both with what DROPS they have; codes that can't be aren't chosen).");
        Consumer<FasterToBeLater> set = Check.text("circles 2;time 0 2;time 1 2;ship 0 0 0 drops 9;ship 0 1 0;ship 0 1 0 drops 1;ship 4 1 0;ship 0 1 0 drops 4");
        // SHIP 2 answers, knowing the code: it goes down as the other goes up, and stays as it stays; then it has no drops
        check.only("one that flees once", set, x -> x.tag(0, 2, 1), 0);
        check.only("but once", set, x -> x.tag(0, 2, 2), 1);
        check.only("one with four drops, by 4", set, x -> x.tag(0, 4, 4), 0);
        check.only("one with four drops, by 5", set, x -> x.tag(0, 4, 5), 1);
        check.only("one without drops stays", set, x -> x.tag(1, 3, 0), 1);
        check.only("one without drops can't come", set.andThen(x -> x.fill(0, 0)), x -> x.tag(0, 3, 5), 0);
        check.only("a STATION can't come", set, x -> x.tag(3, 0, 5), 0);
        check.only("one that it flees from has fewer drops", set, x -> x.tag(4, 0, 5), 0);
        // a BUSY one can do nothing but come; so can the other
        Consumer<FasterToBeLater> busy = Check.text("ship 0 0 1 drops 9;ship 4 1 2;ship 0 1 2 drops 9").andThen(x -> x.change(0, 1));
        check.only("a BUSY one that comes", busy, x -> x.tag(0, 1, 2), 1);
        check.only("a BUSY one, too early", busy, x -> x.tag(0, 1, 1), 0);
        check.only("one waits for a BUSY one", busy, x -> x.tag(1, 0, 2), 1);
        check.only("one flees from a BUSY one", busy, x -> x.tag(0, 2, 2), 0);
    }

    /** What tag says is played out with CHANGES and STEPS in truth, each game on an object of its own. */
    private static void tagInTruth() {
        String[] skies = {"circles 2;time 0 2;time 1 3", "circles 3;time 0 2;time 1 2;time 2 3", "circles 2;time 0 3;time 1 3;cost 0 2"};
        int[] wins = new int[2];
        for (String sky : skies) {
            for (int places = 0; places < 8; places++) {
                for (int drops = 0; drops <= 4; drops++) {
                    String text = sky + ";ship 0 " + places % 2 + " " + places / 2 % 2 + " drops " + (4 - drops)
                        + ";ship 1 " + places / 4 + " 0 drops " + drops;
                    for (int t = 0; t <= 2; t++) {
                        int due = canCatch(text, new int[0], t) ? 1 : 0;
                        wins[due]++;
                        check.due(text + ", tag by " + t, Check.read(text).tag(0, 1, t), due);
                    }
                }
            }
        }
        check.due("games of both ends", wins[0] > 20 && wins[1] > 20 ? 1 : 0, 1);
    }

    /** The codes of both, one after the other, that were played so far. */
    private static FasterToBeLater played(String text, int[] codes) {
        FasterToBeLater x = Check.read(text);
        for (int i = 0; i < codes.length; i++) {
            if (codes[i] != 0 && x.change(i % 2, codes[i]) < 0) {
                return null;
            }
            if (i % 2 == 1) {
                x.step(1);
            }
        }
        return x;
    }

    private static int[] with(int[] codes, int code) {
        int[] more = java.util.Arrays.copyOf(codes, codes.length + 1);
        more[codes.length] = code;
        return more;
    }

    private static boolean canCatch(String text, int[] codes, int left) {
        if (played(text, codes).meets(0, 1) == 1) {
            return true;
        }
        boolean found = false;
        for (int code = 0; code <= 2 && left > 0; code++) {
            int[] mine = with(codes, code);
            found |= played(text, mine) != null && allCaught(text, mine, left);
        }
        return found;
    }

    private static boolean allCaught(String text, int[] codes, int left) {
        boolean all = true;
        for (int code = 0; code <= 2; code++) {
            int[] both = with(codes, code);
            all &= played(text, both) == null || canCatch(text, both, left - 1);
        }
        return all;
    }

    private static void tagRefusals() {
        check.of(36, "TAG: 1, 0.");
        Consumer<FasterToBeLater> set = Check.text("ship 0 0 0;ship 0 0 0;ship 0 0 1");
        check.only("1", set, x -> x.tag(0, 1, 0), 1);
        check.only("0", set, x -> x.tag(0, 2, 5), 0);
        check.of(36, "BAD: also one twice.");
        check.span("tag ship", set, (x, ship) -> x.tag(ship, 2, 1), 0, 1);
        check.span("tag other", set, (x, other) -> x.tag(0, other, 1), 1, 2);
        check.span("tag t", set, (x, t) -> x.tag(0, 2, t), 0, 5);
        check.span("tag t, now", set, (x, t) -> x.tag(0, 1, t), 0, 5);
        for (int i = 0; i < 4; i++) {
            int ship = i;
            check.refused("one twice", set, x -> x.tag(ship, ship, 1), Check.BAD);
        }
        check.refused("one that isn't", set, x -> x.tag(3, 0, 1), Check.BAD);
        check.refused("another that isn't", set, x -> x.tag(0, 3, 1), Check.BAD);
    }
}
