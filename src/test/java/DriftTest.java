import java.util.function.Consumer;

/** Promises 30 to 36: again, pass, queue, fullest, clash, burnt, tag. */
public final class DriftTest {
    private static final Check check = new Check("DriftTest");

    public static void main(String[] args) {
        again();
        pass();
        queue();
        fullest();
        clash();
        burnt();
        burntRefusals();
        tag();
        check.end();
    }

    private static void again() {
        check.only("with none", x -> { }, x -> x.again(), Check.NONE);
        check.only("with one", x -> Check.feed(x, "ship 4 3 0"), x -> x.again(), 10);
        check.only("with an odd one", x -> Check.feed(x, "time 1 7;ship 4 1 3"), x -> x.again(), 7);
        check.only("with two on one circle", x -> Check.feed(x, "ship 4 3 0;ship 0 3 1"), x -> x.again(), 10);
        check.only("4 and 6 and 10", x -> Check.feed(x, "ship 4 0 0;ship 0 1 1;ship 2 3 1"), x -> x.again(), 60);
        Consumer<FasterToBeLater> six = x -> Check.feed(x,
            "circles 6;time 0 20;time 1 19;time 2 17;time 3 13;time 4 11;time 5 18;"
            + "ship 0 0 0;ship 0 1 0;ship 0 2 0;ship 0 3 0;ship 0 4 0;ship 0 5 0");
        check.only("of six", six, x -> x.again(), 20L * 19 * 17 * 13 * 11 * 9);
        Consumer<FasterToBeLater> busy = x -> {
            Check.feed(x, "ship 4 0 0;ship 0 0 1 drops 9");
            x.change(1, 1);
        };
        check.only("with a busy one", busy, x -> x.again(), Check.NONE);
        check.only("when it has come", busy.andThen(x -> x.step(2)), x -> x.again(), 12);
    }

    private static void pass() {
        Consumer<FasterToBeLater> set = x -> Check.feed(x, "circles 2;time 0 4;time 1 6;ship 0 0 1;ship 0 1 2;ship 0 0 1;ship 0 0 2;ship 0 1 0");
        // 1 times 6 and 2 times 4; then 2 times 6 and 3 times 4
        check.only("at the next step", set, x -> x.pass(0, 1), 1);
        check.only("now", set, x -> x.pass(0, 2), 0);
        check.only("never on one circle", set, x -> x.pass(0, 3), Check.NONE);
        // PLACE 2 of 4 and 3 of 6 is at STEPS that are 1 modulo 4 and 3 modulo 6; 0 and 0 never is
        check.only("at a later step", set, x -> x.pass(0, 4), 9);
        check.only("the other way", set, x -> x.pass(4, 0), 9);
        // BUSY ones stay at the PLACE that they come to
        Consumer<FasterToBeLater> busy = x -> {
            Check.feed(x, "circles 2;time 0 4;time 1 20;ship 0 1 0 drops 9;ship 4 0 0;ship 4 0 2");
            x.change(0, 2);
        };
        check.only("a busy one counts", busy, x -> x.pass(0, 2), 0);
        check.only("and stays while it is", busy, x -> x.pass(0, 1), 2);
        check.refused("one twice", set, x -> x.pass(1, 1), Check.BAD);
        check.refused("none", set, x -> x.pass(-1, 1), Check.BAD);
        check.refused("no other", set, x -> x.pass(1, 5), Check.BAD);
    }

    private static void queue() {
        Consumer<FasterToBeLater> set = x -> Check.feed(x, "ship 4 3 1;ship 0 3 1;ship 2 3 3;ship 3 3 8;ship 0 3 6;ship 1 2 1 drops 9");
        int[] due = {0, 2, 2, 6, 14, 14, 30, 30};
        for (int g = 0; g < due.length; g++) {
            int wide = g;
            check.only("queue(0, " + g + ")", set, x -> x.queue(0, wide), due[g]);
        }
        check.only("queue(0, 20)", set, x -> x.queue(0, 20), 30);
        check.only("the first ship may be in it", x -> Check.feed(x, "ship 0 0 0;ship 4 0 1;ship 4 0 3"), x -> x.queue(1, 2), 1);
        check.only("another station, too", x -> Check.feed(x, "ship 0 0 0;ship 4 0 1;ship 4 0 3"), x -> x.queue(1, 3), 5);
        check.only("one that comes isn't in it", set.andThen(x -> x.change(5, 1)), x -> x.queue(0, 20), 30);
        check.refused("queue of no station", set, x -> x.queue(1, 0), Check.STUCK);
        check.refused("queue of no station, g 21", set, x -> x.queue(1, 21), Check.BAD);
        check.refused("queue g -1", set, x -> x.queue(0, -1), Check.BAD);
        check.refused("queue of none", set, x -> x.queue(6, 0), Check.BAD);
    }

    private static void fullest() {
        check.only("of none", x -> { }, x -> x.fullest(), 0);
        check.only("of one", x -> Check.feed(x, "ship 0 3 0"), x -> x.fullest(), 3);
        check.only("the second", x -> Check.feed(x, "ship 0 1 0"), x -> x.fullest(), 1);
        check.only("of several the first", x -> Check.feed(x, "ship 0 3 0;ship 0 2 0;ship 0 2 1;ship 0 3 0"), x -> x.fullest(), 2);
        Consumer<FasterToBeLater> busy = x -> {
            Check.feed(x, "ship 0 2 0 drops 9;ship 0 2 0;ship 0 3 0");
            x.change(0, 1);
        };
        check.only("busy ones count where they come to", busy, x -> x.fullest(), 3);
    }

    private static void clash() {
        check.only("of none", x -> { }, x -> x.clash(60), Check.NONE);
        Consumer<FasterToBeLater> never = x -> Check.feed(x, "ship 0 0 0;ship 0 0 1;ship 0 1 0");
        check.only("never", never, x -> x.clash(60), Check.NONE);
        check.only("now", never.andThen(x -> x.ship(3, 0, 1, 0)), x -> x.clash(0), 0);
        Consumer<FasterToBeLater> comes = x -> {
            Check.feed(x, "ship 0 0 1 drops 3;ship 4 1 2");
            x.change(0, 1);
        };
        check.only("one that comes", comes, x -> x.clash(60), 2);
        check.only("just then", comes, x -> x.clash(2), 2);
        check.only("not yet", comes, x -> x.clash(1), Check.NONE);
        check.only("not while it is busy for one step", comes.andThen(x -> x.step(1)), x -> x.clash(0), Check.NONE);
        check.refused("clash(-1)", never, x -> x.clash(-1), Check.BAD);
        check.refused("clash(61)", never, x -> x.clash(61), Check.BAD);
    }

    /** TIME 4 and 4, COST 3: each CHANGE takes 2 STEPS and keeps the direction of one that drifts. */
    private static Consumer<FasterToBeLater> sighted(long... threes) {
        return x -> {
            Check.feed(x, "circles 3;time 0 4;time 1 4;time 2 4;cost 0 3;cost 1 5;ship 0 0 0;ship 1 0 0;ship 2 0 0;ship 0 1 0 drops 99");
            Check.put(x, 0, 3, threes);
        };
    }

    private static void burnt() {
        check.only("here now", sighted(0, 0, 0), x -> x.burnt(0, 1, 0), 0);
        check.only("elsewhere now", sighted(0, 0, 1), x -> x.burnt(0, 1, 0), Check.NONE);
        check.only("here later", sighted(5, 0, 1), x -> x.burnt(0, 1, 0), 0);
        check.only("above", sighted(2, 1, 2), x -> x.burnt(0, 1, 0), 3);
        check.only("above, a tug", sighted(2, 1, 2), x -> x.burnt(0, 1, 1), 2);
        check.only("above, a parcel", sighted(2, 1, 2), x -> x.burnt(0, 1, 2), Check.NONE);
        check.only("above, too early", sighted(1, 1, 1), x -> x.burnt(0, 1, 0), Check.NONE);
        check.only("far above", sighted(60, 2, 0), x -> x.burnt(0, 1, 0), 8);
        check.only("there and back", sighted(2, 1, 2, 4, 0, 0), x -> x.burnt(0, 2, 0), 6);
        check.only("only the first of these", sighted(2, 1, 2, 4, 0, 0), x -> x.burnt(0, 1, 0), 3);
        check.only("there and back too soon", sighted(2, 1, 2, 3, 0, 3), x -> x.burnt(0, 2, 0), Check.NONE);
        check.only("not busy then", sighted(0, 0, 0, 1, 0, 1, 3, 1, 3), x -> x.burnt(0, 3, 0), 3);
        check.only("it would be busy then", sighted(0, 0, 0, 1, 0, 1, 2, 1, 2), x -> x.burnt(0, 3, 0), Check.NONE);
        check.only("twice at one step", sighted(2, 1, 2, 2, 1, 2), x -> x.burnt(0, 2, 0), 3);
        check.only("at two places at one step", sighted(2, 1, 2, 2, 0, 2), x -> x.burnt(0, 2, 0), Check.NONE);
        long[] ten = new long[30];
        for (int i = 0; i < 10; i++) {
            ten[3 * i] = 4 * i;
            ten[3 * i + 1] = i % 2;
        }
        check.only("ten", sighted(ten), x -> x.burnt(0, 10, 0), 27);
        Consumer<FasterToBeLater> busy = sighted(2, 2, 2, 1, 2, 2).andThen(x -> x.change(3, 1));
        check.only("a busy one, when it has come", busy, x -> x.burnt(0, 1, 3), 0);
        Consumer<FasterToBeLater> early = sighted(1, 2, 2).andThen(x -> x.change(3, 1));
        check.only("a busy one, while it is", early, x -> x.burnt(0, 1, 3), Check.NONE);
    }

    private static void burntRefusals() {
        Consumer<FasterToBeLater> set = sighted(2, 1, 2, 1, 0, 0).andThen(x -> x.show(1, 0));
        check.refused("on shelf 8", set, x -> x.burnt(8, 1, 0), Check.BAD);
        check.refused("n 0, on a ship", set, x -> x.burnt(1, 0, 0), Check.BAD);
        check.refused("n 11, on nothing", set, x -> x.burnt(2, 11, 0), Check.BAD);
        check.refused("a huge n", set, x -> x.burnt(0, 1431655766, 0), Check.BAD);
        check.refused("no ship", set, x -> x.burnt(1, 1, 4), Check.BAD);
        check.refused("on a ship", set, x -> x.burnt(1, 1, 0), Check.OTHER);
        check.refused("on nothing", set, x -> x.burnt(2, 1, 0), Check.NOTHING);
        check.refused("fewer elements", set, x -> x.burnt(0, 3, 0), Check.BAD);
        check.refused("a step less than the one ahead", set, x -> x.burnt(0, 2, 0), Check.BAD);
        check.refused("step -1", sighted(-1, 0, 0), x -> x.burnt(0, 1, 0), Check.BAD);
        check.refused("step 61", sighted(61, 0, 0), x -> x.burnt(0, 1, 0), Check.BAD);
        check.refused("circle 3", sighted(0, 3, 0), x -> x.burnt(0, 1, 0), Check.BAD);
        check.refused("circle -1", sighted(0, -1, 0), x -> x.burnt(0, 1, 0), Check.BAD);
        check.refused("place 4", sighted(0, 0, 4), x -> x.burnt(0, 1, 0), Check.BAD);
        check.refused("place -1", sighted(0, 0, -1), x -> x.burnt(0, 1, 0), Check.BAD);
        check.refused("a long that is 0 as an int", sighted(0, 1L << 32, 0), x -> x.burnt(0, 1, 0), Check.BAD);
        check.refused("bad ones behind a sighting that can't be", sighted(0, 0, 1, 61, 0, 0), x -> x.burnt(0, 2, 0), Check.BAD);
    }

    private static void tag() {
        // TIME 2 and 2: each CHANGE takes 1 STEP and keeps the direction; SHIP 0 and 1 in one direction
        Consumer<FasterToBeLater> set = x -> Check.feed(x,
            "circles 2;time 0 2;time 1 2;ship 0 0 0 drops 9;ship 0 1 0 drops 0;ship 0 1 0 drops 1;ship 4 1 0;ship 0 0 1 drops 9;ship 0 0 0 drops 9");
        check.only("now", set, x -> x.tag(0, 5, 0), 1);
        check.only("not yet", set, x -> x.tag(0, 1, 0), 0);
        check.only("one that can't flee", set, x -> x.tag(0, 1, 1), 1);
        check.only("a station", set, x -> x.tag(0, 3, 1), 1);
        // SHIP 2 answers, knowing the code: it goes down as the other goes up, and stays as it stays; then it has no drops
        check.only("one that flees once", set, x -> x.tag(0, 2, 1), 0);
        check.only("but once", set, x -> x.tag(0, 2, 2), 1);
        check.only("one in another direction", set, x -> x.tag(0, 4, 5), 0);
        check.only("one without drops stays", set, x -> x.tag(1, 3, 0), 1);
        check.only("a station can't come", set, x -> x.tag(3, 0, 5), 0);
        check.refused("one twice", set, x -> x.tag(1, 1, 1), Check.BAD);
        check.refused("none", set, x -> x.tag(6, 1, 1), Check.BAD);
        check.refused("no other", set, x -> x.tag(1, -1, 1), Check.BAD);
        check.refused("t -1", set, x -> x.tag(0, 1, -1), Check.BAD);
        check.refused("t 6", set, x -> x.tag(0, 1, 6), Check.BAD);
    }
}
