import java.util.function.Consumer;
import java.util.function.ToLongFunction;

/** Counts the answers that are not as due, and ends with exit code 1 if there was one. */
final class Check {
    static final int NONE = -1;
    static final int BAD = -2;
    static final int OTHER = -3;
    static final int NOTHING = -4;
    static final int STUCK = -5;
    static final int FULL = -6;

    private final String name;
    private int done;
    private int wrong;

    Check(String name) {
        this.name = name;
    }

    void due(String what, long got, long want) {
        done++;
        if (got != want) {
            wrong++;
            System.out.println(name + ": " + what + " answered " + got + ", due is " + want);
        }
    }

    /** The call answers the number of a refusal, and nothing changes but how many of it there were. */
    void refused(String what, Consumer<FasterToBeLater> setting, ToLongFunction<FasterToBeLater> call, int number) {
        refused(what, setting, call, number, number);
    }

    void refused(String what, Consumer<FasterToBeLater> setting, ToLongFunction<FasterToBeLater> call, int answer, int number) {
        FasterToBeLater x = made(setting);
        String before = told(x);
        int[] counts = refusals(x);
        due(what, call.applyAsLong(x), answer);
        String behind = told(x);
        int[] countsBehind = refusals(x);
        for (int i = 0; i < counts.length; i++) {
            due(what + ", refusals " + (-2 - i), countsBehind[i], counts[i] + (-2 - i == number ? 1 : 0));
        }
        unchanged(what, before, behind);
    }

    /** The call answers this, nothing is refused and nothing at all changes. */
    void only(String what, Consumer<FasterToBeLater> setting, ToLongFunction<FasterToBeLater> call, long answer) {
        FasterToBeLater x = made(setting);
        String before = told(x) + java.util.Arrays.toString(refusals(x));
        due(what, call.applyAsLong(x), answer);
        unchanged(what, before, told(x) + java.util.Arrays.toString(refusals(x)));
    }

    private void unchanged(String what, String before, String behind) {
        done++;
        if (!before.equals(behind)) {
            wrong++;
            System.out.println(name + ": " + what + " changed " + before + " to " + behind);
        }
    }

    void end() {
        System.out.println(name + ": " + done + " looked at, " + wrong + " wrong");
        if (wrong != 0) {
            System.exit(1);
        }
    }

    static FasterToBeLater made(Consumer<FasterToBeLater> setting) {
        FasterToBeLater x = new FasterToBeLater();
        setting.accept(x);
        return x;
    }

    static FasterToBeLater read(String text) {
        return made(x -> feed(x, text));
    }

    /** Feeds a text and reads it. */
    static int feed(FasterToBeLater x, String text) {
        for (int i = 0; i < text.length(); i++) {
            x.feed(text.charAt(i));
        }
        return x.world();
    }

    static void put(FasterToBeLater x, int s, int sort, long... values) {
        x.row(s, sort, values.length);
        for (int i = 0; i < values.length; i++) {
            x.set(s, i, values[i]);
        }
    }

    private static int[] refusals(FasterToBeLater x) {
        int[] counts = new int[5];
        for (int i = 0; i < 5; i++) {
            counts[i] = x.status(12 + i);
        }
        return counts;
    }

    /** All that can be seen of an object, but the refusals; asks nothing that is refused. */
    static String told(FasterToBeLater x) {
        StringBuilder b = new StringBuilder();
        for (int what = 0; what <= 8; what++) {
            b.append(x.status(what)).append(' ');
        }
        for (int i = 0; i < x.status(1); i++) {
            b.append("ship");
            for (int what = 0; what <= 4; what++) {
                b.append(' ').append(x.shipOf(i, what));
            }
        }
        for (int c = 0; c < x.status(0); c++) {
            b.append(" circle ").append(x.circleOf(c, 0)).append(' ').append(x.circleOf(c, 1));
        }
        for (int s = 0; s < 8; s++) {
            b.append(" shelf ").append(x.holds(s));
            for (int i = 0; i < 7 && x.holds(s) >= 0 && x.holds(s) < 10; i++) {
                b.append(' ').append(x.element(s, i));
            }
        }
        return b.toString();
    }
}
