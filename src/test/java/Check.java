import java.util.function.Consumer;
import java.util.function.ToLongBiFunction;
import java.util.function.ToLongFunction;

/** Counts the answers that are not as due, and ends with exit code 1 if there was one. */
final class Check {
    static final int NONE = -1;
    static final int BAD = -2;
    static final int OTHER = -3;
    static final int NOTHING = -4;
    static final int STUCK = -5;
    static final int FULL = -6;

    /** The Terms of the document, where a promise's number would stand. */
    static final int TERMS = 0;

    private static final int REFUSAL_SORTS = 5;

    private final String name;
    private String sentence = "";
    private int done;
    private int wrong;

    Check(String name) {
        this.name = name;
    }

    /** The sentence of the document that what follows looks at; SentencesTest looks it up there. */
    void of(int promise, String words) {
        sentence = " [" + (promise == TERMS ? "Terms" : "Promise " + promise) + ": " + words + "]";
    }

    void due(String what, long got, long want) {
        done++;
        if (got != want) {
            tell(what + " answered " + got + ", due is " + want);
        }
    }

    void same(String what, String got, String want) {
        done++;
        if (!got.equals(want)) {
            tell(what + ": " + got + " and not " + want);
        }
    }

    private void tell(String fault) {
        wrong++;
        System.out.println(name + ": " + fault + sentence);
    }

    /** The call answers the number of a refusal, and nothing changes but how many of it there were. */
    void refused(String what, Consumer<FasterToBeLater> setting, ToLongFunction<FasterToBeLater> call, int number) {
        refused(what, setting, call, number, number);
    }

    void refused(String what, Consumer<FasterToBeLater> setting, ToLongFunction<FasterToBeLater> call, int answer, int number) {
        FasterToBeLater x = made(setting);
        int[] ahead = refusals(x);
        due(what, call.applyAsLong(x), answer);
        int[] behind = refusals(x);
        for (int i = 0; i < REFUSAL_SORTS; i++) {
            due(what + ", refusals " + (BAD - i), behind[i], ahead[i] + (BAD - i == number ? 1 : 0));
        }
        unchanged(what, setting, call);
    }

    /** The call answers this, nothing is refused and nothing at all changes. */
    void only(String what, Consumer<FasterToBeLater> setting, ToLongFunction<FasterToBeLater> call, long answer) {
        taken(what, setting, call, answer);
        unchanged(what, setting, call);
    }

    /** The call answers this, and nothing is refused. */
    void taken(String what, Consumer<FasterToBeLater> setting, ToLongFunction<FasterToBeLater> call, long answer) {
        FasterToBeLater x = made(setting);
        int[] ahead = refusals(x);
        due(what, call.applyAsLong(x), answer);
        int[] behind = refusals(x);
        for (int i = 0; i < REFUSAL_SORTS; i++) {
            due(what + ", refusals " + (BAD - i), behind[i], ahead[i]);
        }
    }

    /** From low to high the number may be; the next at both ends, and the ends of all ints, are BAD. */
    void span(String what, Consumer<FasterToBeLater> setting, ToLongBiFunction<FasterToBeLater, Integer> call, int low, int high) {
        for (int v = low; v <= high; v++) {
            FasterToBeLater x = made(setting);
            int ahead = x.status(12);
            call.applyAsLong(x, v);
            due(what + " of " + v + " may be: refusals BAD", x.status(12), ahead);
        }
        int[] outside = {low - 1, high + 1, Integer.MIN_VALUE, Integer.MAX_VALUE};
        for (int v : outside) {
            refused(what + " of " + v, setting, x -> call.applyAsLong(x, v), BAD);
        }
    }

    /**
     * Two objects of one setting, of which only one got the call, tell the same; also behind calls that bring out what
     * can't be seen at once: what THE TAPE has, what an image kept, and CIRCLES that aren't there.
     */
    private void unchanged(String what, Consumer<FasterToBeLater> setting, ToLongFunction<FasterToBeLater> call) {
        for (int probe = 0; probe < 4; probe++) {
            FasterToBeLater x = made(setting);
            call.applyAsLong(x);
            FasterToBeLater twin = made(setting);
            same(what + " changed (probe " + probe + ")", probed(x, probe) + told(x), probed(twin, probe) + told(twin));
        }
    }

    private static String probed(FasterToBeLater x, int probe) {
        switch (probe) {
            case 1:
                return x.world() + " ";
            case 2:
                return x.back() + " " + x.circles(6) + " ";
            case 3:
                return x.circles(6) + " ";
            default:
                return "";
        }
    }

    void end() {
        System.out.println(name + ": " + done + " looked at, " + wrong + " wrong");
        if (wrong != 0) {
            System.exit(1);
        }
    }

    static FasterToBeLater made(Consumer<FasterToBeLater> setting) {
        FasterToBeLater x = new FasterToBeLater();
        setting.accept(x);
        return x;
    }

    /** A setting that a text brings about. */
    static Consumer<FasterToBeLater> text(String text) {
        return x -> {
            if (feed(x, text) < 0) {
                throw new IllegalStateException("the test's own text has a fault: " + text);
            }
        };
    }

    static FasterToBeLater read(String text) {
        return made(text(text));
    }

    /** Feeds a text and reads it. */
    static int feed(FasterToBeLater x, String text) {
        letters(x, text);
        return x.world();
    }

    static void letters(FasterToBeLater x, String text) {
        for (int i = 0; i < text.length(); i++) {
            x.feed(text.charAt(i));
        }
    }

    static void put(FasterToBeLater x, int s, int sort, long... values) {
        x.row(s, sort, values.length);
        for (int i = 0; i < values.length; i++) {
            if (values[i] != 0) {
                x.set(s, i, values[i]);
            }
        }
    }

    private static int[] refusals(FasterToBeLater x) {
        int[] counts = new int[REFUSAL_SORTS];
        for (int i = 0; i < REFUSAL_SORTS; i++) {
            counts[i] = x.status(12 + i);
        }
        return counts;
    }

    /** All that can be seen of an object, but the refusals; asks nothing that is refused. */
    static String told(FasterToBeLater x) {
        StringBuilder b = new StringBuilder();
        for (int what = 0; what <= 8; what++) {
            b.append(x.status(what)).append(' ');
        }
        int ships = x.status(1);
        for (int i = 0; i < ships; i++) {
            b.append("ship");
            for (int what = 0; what <= 4; what++) {
                b.append(' ').append(x.shipOf(i, what));
            }
        }
        int circles = x.status(0);
        for (int c = 0; c < circles; c++) {
            b.append(" circle ").append(x.circleOf(c, 0)).append(' ').append(x.circleOf(c, 1));
        }
        for (int s = 0; s < 8; s++) {
            int content = x.holds(s);
            b.append(" shelf ").append(content);
            for (int i = 0; i < 40 && content >= 0 && content < 10; i++) {
                b.append(' ').append(x.element(s, i));
            }
        }
        return b.toString();
    }
}
