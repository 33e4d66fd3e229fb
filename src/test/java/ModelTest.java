import java.util.ArrayList;
import java.util.List;
import java.util.Random;

/**
 * Long runs of calls by draws, each answer of the class compared with the plain model's. What the draws need to know they
 * ask of the model, so that the object gets no more calls than the document grants it.
 */
public final class ModelTest {
    private static final int RUNS = Integer.getInteger("runs", 800);
    private static final int CALLS = 512;
    /** Kept back for what is asked at the end of a run. */
    private static final int LAST_LOOK = 160;
    private static final String[] WORDS = {"circles", "time", "cost", "ship", "step", "drops", ";", "x", "shi", "A"};
    private static final int[] WILD = {Integer.MIN_VALUE, Integer.MIN_VALUE + 1, -65536, -21, -2, 6, 7, 8, 20, 21, 40, 41,
        60, 61, 99, 100, 255, 256, 400, 401, 65536, 1 << 30, Integer.MAX_VALUE - 1, Integer.MAX_VALUE};
    private static int wrong;

    private final Random random;
    private final FasterToBeLater made = new FasterToBeLater();
    private final PlainModel model = new PlainModel();
    private final List<String> told = new ArrayList<>();
    private final boolean isWild;
    private String call = "";
    private int calls;
    private long lastAnswer;

    private ModelTest(long seed) {
        random = new Random(seed);
        isWild = seed % 5 == 4;
    }

    public static void main(String[] args) {
        for (int run = 0; run < RUNS && wrong < 5; run++) {
            new ModelTest(run).play(run);
        }
        System.out.println(wrong == 0 ? "ModelTest: " + RUNS + " runs agree" : "ModelTest: " + wrong + " runs differ");
        if (wrong != 0) {
            System.exit(1);
        }
    }

    private void play(int run) {
        if (run % 4 != 0) {
            smallWorld(run % 4 == 1);
        }
        boolean good = true;
        while (calls < CALLS - LAST_LOOK && good) {
            good = one(random.nextInt(48)) && glance();
        }
        if (!good || !lastLook()) {
            wrong++;
            System.out.println("run " + run + " differs at its last call:");
            System.out.println(String.join("; ", told));
        }
    }

    /** Short CIRCLES and many SHIPS, so that meetings come often. */
    private void smallWorld(boolean tiny) {
        same("circles", 2 + random.nextInt(5));
        for (int c = 0; c < model.status(0); c++) {
            same("time", c, 2 + random.nextInt(tiny ? 4 : 19));
            if (c > 0) {
                same("cost", c - 1, 1 + random.nextInt(tiny ? 3 : 9));
            }
        }
        int count = 2 + random.nextInt(5);
        for (int i = 0; i < count; i++) {
            int c = random.nextInt(model.status(0));
            same("ship", random.nextInt(6), c, random.nextInt(model.circleOf(c, 0)), random.nextInt(100));
        }
    }

    /** One thing that can be seen, so that a change where none is due is found soon. */
    private boolean glance() {
        switch (random.nextInt(8)) {
            case 0: return same("status", random.nextInt(18));
            case 1: return same("shipOf", ship(), random.nextInt(5));
            case 2: return same("element", random.nextInt(8), random.nextInt(40));
            case 3: return same("holds", random.nextInt(8));
            default: return true;
        }
    }

    private boolean lastLook() {
        boolean good = true;
        for (int what = -1; what <= 17 && good; what++) {
            good = same("status", what);
        }
        for (int i = 0; i < 5 * model.status(1) && good; i++) {
            good = same("shipOf", i / 5, i % 5);
        }
        for (int i = 0; i < 3 * model.status(0) && good; i++) {
            good = same("circleOf", i / 3, i % 3);
        }
        for (int s = 0; s < 8 && good; s++) {
            good = same("holds", s);
        }
        while (calls < CALLS && good) {
            good = same("element", random.nextInt(8), random.nextInt(40));
        }
        return good;
    }

    private int up(int bound) {
        return random.nextInt(20) == 0 ? bound + random.nextInt(3) - 1 : random.nextInt(Math.max(1, bound));
    }

    private int low(int bound) {
        if (isWild && random.nextInt(8) == 0) {
            return WILD[random.nextInt(WILD.length)];
        }
        int v = up(bound);
        return random.nextInt(60) == 0 ? -1 - random.nextInt(2) : random.nextInt(300) == 0 ? random.nextInt() : v;
    }

    private int ship() {
        return low(Math.max(1, model.status(1)));
    }

    private int shelf() {
        return random.nextInt(3) == 0 ? low(8) : low(3);
    }

    private long value() {
        int pick = random.nextInt(12);
        return pick == 0 ? random.nextLong() : pick == 1 ? 1L << 32 | random.nextInt(3) : pick < 4 ? low(70) : low(3);
    }

    private boolean one(int pick) {
        switch (pick) {
            case 0: return same("row", shelf(), low(5), random.nextBoolean() ? low(41) : 30);
            case 1: return same("set", shelf(), low(12), value());
            case 2: return same("copy", shelf(), shelf(), low(30), low(30), low(20));
            case 3: return same("element", shelf(), low(40));
            case 4: return same("holds", shelf());
            case 5: return same("show", low(8), random.nextInt(4) == 0 ? -1 : ship());
            case 6: return same("says", low(8), low(6));
            case 7: return same("circles", 2 + low(5));
            case 8: return same("time", low(model.status(0)), 2 + low(19));
            case 9: return same("cost", low(model.status(0)), 1 + low(9));
            case 10: return same("ship", low(6), low(model.status(0)), low(8), low(100));
            case 11: return same("fill", ship(), low(100));
            case 12: return text();
            case 13: return same("wipe");
            case 14: return same("shipOf", ship(), low(5));
            case 15: return same("circleOf", low(model.status(0)), low(3));
            case 16: return same("can", ship(), 1 + low(2));
            case 17: return same("behind", ship(), low(401), low(3));
            case 18: return same("meets", ship(), ship());
            case 19: return flight();
            case 20: return same("judge", shelf(), low(41), ship());
            case 21: return same("flown", shelf(), low(8), ship(), low(4));
            case 22: return same("met", shelf(), low(8), ship(), ship());
            case 23: return same("cheapest", ship(), ship(), low(61));
            case 24: return same("soonest", ship(), ship());
            case 25: return wholeWay();
            case 26: return same("way", ship(), ship(), low(61));
            case 27: return same("round", ship(), low(64), low(61));
            case 28: return same("round", ship(), random.nextInt(1 << model.status(1)) & random.nextInt(64), low(61));
            case 29: return same("home", ship(), low(2));
            case 30: return same("again");
            case 31: return same("pass", ship(), ship());
            case 32: return same("queue", ship(), low(21));
            case 33: return same("fullest");
            case 34: return same("clash", low(61));
            case 35: return sightings();
            case 36: return same("burnt", shelf(), low(10), ship());
            case 37: return same("tag", ship(), ship(), low(6));
            case 38: return same("step", low(60));
            case 39: return same("step", 1 + low(4));
            case 40: return same("change", ship(), 1 + low(2));
            case 41: return same("hand", ship(), ship(), low(100));
            case 42: return same("hurl", ship(), ship(), 1 + low(2));
            case 43: return random.nextInt(6) != 0 || same("bolts", low(7));
            case 44: return same("seed", random.nextInt());
            case 45: return random.nextInt(3) != 0 || same("image");
            case 46: return random.nextInt(3) != 0 || same("back");
            default: return meetAndGive();
        }
    }

    /** A tape of mostly good statements, sometimes with a stray word in it. */
    private boolean text() {
        StringBuilder b = new StringBuilder();
        int count = 1 + random.nextInt(4);
        for (int i = 0; i < count; i++) {
            String sep = random.nextInt(10) == 0 ? "  " : " ";
            switch (random.nextInt(random.nextInt(4) == 0 ? 5 : 4)) {
                case 0: b.append("step").append(random.nextInt(62)); break;
                case 1: b.append("cost").append(sep).append(low(5)).append(sep).append(low(11)); break;
                case 2: b.append(sep).append("time").append(low(6)).append(sep).append(low(22)); break;
                case 3:
                    b.append("ship").append(low(6)).append(sep).append(low(4)).append(sep).append(low(6)).append(sep);
                    b.append(random.nextBoolean() ? "drops" + random.nextInt(101) : "");
                    break;
                default: b.append("circles").append(sep).append(2 + random.nextInt(6));
            }
            b.append(random.nextInt(15) == 0 ? WORDS[random.nextInt(WORDS.length)] : "");
            b.append(random.nextInt(15) == 0 ? (char) random.nextInt(256) : ' ');
            b.append(i + 1 < count || random.nextInt(12) == 0 ? ";" : "");
        }
        int most = random.nextInt(10) == 0 ? random.nextInt(b.length() + 1) : b.length();
        for (int i = 0; i < most && calls < CALLS; i++) {
            if (!same("feed", b.charAt(i))) {
                return false;
            }
        }
        return random.nextInt(20) == 0 || same("world");
    }

    private boolean flight() {
        int s = random.nextInt(8);
        boolean good = same("row", s, random.nextInt(5), 12);
        for (int i = 0; i < 12; i++) {
            good &= random.nextInt(3) != 0 || same("set", s, i, random.nextInt(3));
        }
        int a = ship();
        int k = random.nextInt(13);
        return good && same("judge", s, k, a) && same("flown", s, k, a, random.nextInt(4)) && same("met", s, k, a, ship());
    }

    private boolean sightings() {
        int s = random.nextInt(8);
        int k = 1 + random.nextInt(3);
        boolean good = same("row", s, random.nextInt(4), 3 * k + random.nextInt(3) - (random.nextInt(9) == 0 ? 1 : 0));
        int step = random.nextInt(12);
        int a = ship();
        for (int i = 0; i < k; i++) {
            int c = random.nextInt(model.status(0));
            good &= same("set", s, 3 * i, step) && same("set", s, 3 * i + 1, c);
            good &= same("set", s, 3 * i + 2, random.nextInt(model.circleOf(c, 0)));
            step += random.nextInt(10) - (random.nextInt(20) == 0 ? 3 : 0);
        }
        return good && same("burnt", s, k, a);
    }

    private boolean wholeWay() {
        int a = ship();
        int b = ship();
        boolean good = same("soonest", a, b);
        long length = lastAnswer;
        for (int i = 0; i <= length && i < 20 && good; i++) {
            good = same("way", a, b, i);
        }
        return good;
    }

    /** Goes on to the next STEP at which some two MEET, and lets all give to all. */
    private boolean meetAndGive() {
        int t = model.clash(60);
        boolean good = t < 1 || same("step", t);
        for (int a = 0; a < model.status(1) && good; a++) {
            for (int b = 0; b < model.status(1) && good; b++) {
                if (a != b && model.meets(a, b) == 1) {
                    good = same("hand", a, b, 1 + random.nextInt(50)) && same("says", 0, 2)
                        && (random.nextBoolean() || same("hurl", a, b, 1 + random.nextInt(2)));
                }
            }
        }
        return good;
    }

    private boolean same(String name, long... a) {
        StringBuilder b = new StringBuilder(name).append('(');
        for (int i = 0; i < a.length; i++) {
            b.append(i == 0 ? "" : ", ").append(a[i]);
        }
        call = b.append(')').toString();
        if (calls == CALLS) {
            return true;
        }
        calls++;
        long got = ask(name, a, true);
        lastAnswer = got;
        long due = ask(name, a, false);
        told.add(call + " = " + got + (got == due ? "" : " BUT DUE " + due));
        return got == due;
    }

    private long ask(String name, long[] a, boolean ofClass) {
        Class<?> type = ofClass ? FasterToBeLater.class : PlainModel.class;
        for (java.lang.reflect.Method m : type.getDeclaredMethods()) {
            if (m.getName().equals(name) && m.getParameterCount() == a.length && !java.lang.reflect.Modifier.isPrivate(m.getModifiers())) {
                Object[] args = new Object[a.length];
                for (int i = 0; i < a.length; i++) {
                    args[i] = m.getParameterTypes()[i] == long.class ? (Object) a[i] : (Object) (int) a[i];
                }
                try {
                    return ((Number) m.invoke(ofClass ? made : model, args)).longValue();
                } catch (ReflectiveOperationException e) {
                    throw new IllegalStateException(call, e);
                }
            }
        }
        throw new IllegalStateException(name);
    }
}
