import java.util.ArrayList;
import java.util.Arrays;
import java.util.HashMap;
import java.util.List;
import java.util.Map;
import java.util.regex.Matcher;
import java.util.regex.Pattern;

/**
 * The document told again in the plainest way, to be compared with the class: every search goes
 * through all codes, one STEP at a time, and keeps whole texts of codes. Slow, and made so.
 */
final class PlainModel {
    private static final int NONE = -1;
    private static final int BAD = -2;
    private static final int OTHER = -3;
    private static final int NOTHING = -4;
    private static final int STUCK = -5;
    private static final int FULL = -6;

    record Ship(int kind, int circle, int place, int drops, int busy) {
        boolean with(Ship o) {
            return busy == 0 && o.busy == 0 && circle == o.circle && place == o.place;
        }

        boolean can(PlainModel m, int code, boolean free) {
            if (code == 0) {
                return true;
            }
            if (code != 1 && code != 2 || busy > 0 || kind == 2 || kind == 3 || kind == 4) {
                return false;
            }
            int target = code == 1 ? circle + 1 : circle - 1;
            return target >= 0 && target < m.n && (free || m.costFor(kind, Math.min(circle, target)) <= drops);
        }

        Ship begun(PlainModel m, int code) {
            int target = code == 1 ? circle + 1 : circle - 1;
            int own = m.times[circle];
            int other = m.times[target];
            int landing = (place * other / own + other / 2) % other;
            return new Ship(kind, target, landing, drops, Math.max(1, own / 2));
        }

        Ship paid(int by) {
            return new Ship(kind, circle, place, drops - by, busy);
        }

        Ship stepped(PlainModel m) {
            if (busy > 0) {
                return new Ship(kind, circle, place, drops, busy - 1);
            }
            return new Ship(kind, circle, (place + 1) % m.times[circle], drops, 0);
        }

        Ship flown(PlainModel m, int code) {
            if (code == 0) {
                return stepped(m);
            }
            int price = m.costFor(kind, code == 1 ? circle : circle - 1);
            return begun(m, code).paid(price).stepped(m);
        }

        Ship drifted(PlainModel m, int t) {
            Ship s = this;
            for (int i = 0; i < t; i++) {
                s = s.stepped(m);
            }
            return s;
        }
    }

    /** A way so far: its drops and its codes. */
    record Track(int drops, String codes) {
        boolean better(Track o) {
            return o == null || drops < o.drops || drops == o.drops && codes.compareTo(o.codes) < 0;
        }
    }

    private int n = 4;
    private int[] times = {4, 6, 8, 10, 12, 14};
    private int[] costs = {1, 1, 1, 1, 1, 1};
    private List<Ship> ships = new ArrayList<>();
    private int clock;
    private int hits;
    private int seed = 1;
    private Object[] image;
    private String tape = "";
    private final Object[] shelves = new Object[8];
    private final int[] sorts = new int[8];
    private final int[] refused = new int[5];

    private int no(int number) {
        refused[-2 - number]++;
        return number;
    }

    private int costFor(int kind, int lower) {
        int full = costs[lower];
        return kind == 1 || kind == 5 ? full / 2 + full % 2 : full;
    }

    private boolean is(int ship) {
        return ship >= 0 && ship < ships.size();
    }

    private boolean two(int a, int b) {
        return is(a) && is(b) && a != b;
    }

    private static boolean in(long v, long low, long high) {
        return v >= low && v <= high;
    }

    private Object[] all() {
        return new Object[] {n, times.clone(), costs.clone(), new ArrayList<>(ships), clock, hits, seed};
    }

    private void restore(Object[] a) {
        n = (Integer) a[0];
        times = ((int[]) a[1]).clone();
        costs = ((int[]) a[2]).clone();
        ships = new ArrayList<>();
        for (Object o : (List<?>) a[3]) {
            ships.add((Ship) o);
        }
        clock = (Integer) a[4];
        hits = (Integer) a[5];
        seed = (Integer) a[6];
    }

    int row(int s, int sort, int k) {
        if (!in(s, 0, 7) || !in(sort, 0, 4) || !in(k, 0, 40)) {
            return no(BAD);
        }
        shelves[s] = new long[k];
        sorts[s] = sort;
        return 1;
    }

    int set(int s, int i, long v) {
        if (!in(s, 0, 7)) {
            return no(BAD);
        }
        if (shelves[s] instanceof Integer) {
            return no(OTHER);
        }
        if (shelves[s] == null) {
            return no(NOTHING);
        }
        long[] r = (long[]) shelves[s];
        if (!in(i, 0, r.length - 1)) {
            return no(BAD);
        }
        int shift = new int[] {56, 48, 32, 0, 0}[sorts[s]];
        r[i] = sorts[s] == 4 ? (v == 0 ? 0 : 1) : v << shift >> shift;
        return 1;
    }

    int copy(int p, int q, int i, int j, int k) {
        if (!in(p, 0, 7) || !in(q, 0, 7)) {
            return no(BAD);
        }
        if (shelves[p] instanceof Integer || shelves[q] instanceof Integer) {
            return no(OTHER);
        }
        if (shelves[p] != null && shelves[q] != null && sorts[p] != sorts[q]) {
            return no(OTHER);
        }
        if (shelves[p] == null || shelves[q] == null) {
            return no(NOTHING);
        }
        long[] from = ((long[]) shelves[p]).clone();
        long[] to = (long[]) shelves[q];
        if (i < 0 || j < 0 || k < 0 || (long) i + k > from.length || (long) j + k > to.length) {
            return no(BAD);
        }
        for (int x = 0; x < k; x++) {
            to[j + x] = from[i + x];
        }
        return k;
    }

    long element(int s, int i) {
        if (in(s, 0, 7) && shelves[s] instanceof long[] r && in(i, 0, r.length - 1)) {
            return r[i];
        }
        return 0;
    }

    int holds(int s) {
        if (!in(s, 0, 7) || shelves[s] == null) {
            return NONE;
        }
        return shelves[s] instanceof Integer k ? 10 + k : sorts[s];
    }

    int show(int s, int ship) {
        if (!in(s, 0, 7) || ship != NONE && !is(ship)) {
            return no(BAD);
        }
        shelves[s] = ship == NONE ? null : (Object) ship;
        return 1;
    }

    int says(int s, int kind) {
        if (!in(s, 0, 7) || !in(kind, 0, 5)) {
            return no(BAD);
        }
        if (shelves[s] instanceof long[]) {
            return no(OTHER);
        }
        if (shelves[s] == null) {
            return no(NOTHING);
        }
        int number = (Integer) shelves[s];
        Ship me = ships.get(number);
        int[][] over = {{0}, {1, 0}, {2, 0}, {3, 2, 0}, {4, 0}, {5, 1, 0}};
        boolean fits = false;
        for (int k : over[me.kind]) {
            fits |= k == kind;
        }
        if (!fits) {
            return no(OTHER);
        }
        int met = 0;
        int here = 0;
        int room = 0;
        for (int i = 0; i < ships.size(); i++) {
            Ship o = ships.get(i);
            if (i != number) {
                met += me.with(o) ? 1 : 0;
                here += o.busy == 0 && o.circle == me.circle ? 1 : 0;
                room += 99 - o.drops;
            }
        }
        int up = me.circle == n - 1 ? 0 : costFor(me.kind, me.circle);
        return new int[] {me.drops, up, met, here, times[me.circle] - 1, room}[kind];
    }

    int circles(int k) {
        if (!in(k, 2, 6)) {
            return no(BAD);
        }
        if (!ships.isEmpty()) {
            return no(STUCK);
        }
        int was = n;
        n = k;
        return was;
    }

    private boolean taken(int circle) {
        return ships.stream().anyMatch(s -> s.circle == circle);
    }

    int time(int circle, int v) {
        if (!in(circle, 0, n - 1) || !in(v, 2, 20)) {
            return no(BAD);
        }
        if (taken(circle)) {
            return no(STUCK);
        }
        int was = times[circle];
        times[circle] = v;
        return was;
    }

    int cost(int circle, int v) {
        if (!in(circle, 0, n - 2) || !in(v, 1, 9)) {
            return no(BAD);
        }
        int was = costs[circle];
        costs[circle] = v;
        return was;
    }

    int ship(int kind, int circle, int place, int drops) {
        if (!in(kind, 0, 5) || !in(circle, 0, n - 1) || !in(place, 0, times[circle] - 1) || !in(drops, 0, 99)) {
            return no(BAD);
        }
        if (ships.size() == 6) {
            return no(FULL);
        }
        ships.add(new Ship(kind, circle, place, drops, 0));
        return ships.size() - 1;
    }

    int fill(int ship, int v) {
        if (!is(ship) || !in(v, 0, 99)) {
            return no(BAD);
        }
        Ship s = ships.get(ship);
        ships.set(ship, new Ship(s.kind, s.circle, s.place, v, s.busy));
        return s.drops;
    }

    int feed(int letter) {
        if (!in(letter, 0, 255)) {
            return no(BAD);
        }
        if (tape.length() == 250) {
            return no(FULL);
        }
        tape += (char) letter;
        return tape.length();
    }

    int wipe() {
        int was = tape.length();
        tape = "";
        return was;
    }

    /** All TOKENS first, a byte that begins none as one of its own, and the end as the last. */
    int world() {
        List<String> tokens = new ArrayList<>();
        List<Integer> places = new ArrayList<>();
        Matcher m = Pattern.compile("[a-z]+|[0-9]+|[^ ]", Pattern.DOTALL).matcher(tape);
        while (m.find()) {
            tokens.add(m.group());
            places.add(m.start());
        }
        tokens.add("");
        places.add(tape.length());
        Object[] before = all();
        int at = 0;
        int count = 0;
        int fault = NONE;
        while (true) {
            int used = statement(tokens, at);
            if (used < 0) {
                fault = places.get(-1 - used);
                break;
            }
            at = used;
            count++;
            if (tokens.get(at).isEmpty()) {
                break;
            }
            if (!tokens.get(at).equals(";")) {
                fault = places.get(at);
                break;
            }
            at++;
        }
        tape = "";
        if (fault != NONE) {
            restore(before);
            no(BAD);
            return -20 - fault;
        }
        return count;
    }

    private static int number(String token) {
        return token.matches("[0-9]{1,2}") ? Integer.parseInt(token) : NONE;
    }

    /** The place behind it, or -1 less the token that can't stand there. */
    private int statement(List<String> t, int at) {
        switch (t.get(at)) {
            case "circles": {
                if (!ships.isEmpty()) {
                    return -1 - at;
                }
                int k = number(t.get(at + 1));
                if (!in(k, 2, 6)) {
                    return -2 - at;
                }
                n = k;
                return at + 2;
            }
            case "time": {
                int c = number(t.get(at + 1));
                if (!in(c, 0, n - 1) || taken(c)) {
                    return -2 - at;
                }
                int v = number(t.get(at + 2));
                if (!in(v, 2, 20)) {
                    return -3 - at;
                }
                times[c] = v;
                return at + 3;
            }
            case "cost": {
                int c = number(t.get(at + 1));
                if (!in(c, 0, n - 2)) {
                    return -2 - at;
                }
                int v = number(t.get(at + 2));
                if (!in(v, 1, 9)) {
                    return -3 - at;
                }
                costs[c] = v;
                return at + 3;
            }
            case "ship":
                return shipStatement(t, at);
            case "step": {
                int k = number(t.get(at + 1));
                if (!in(k, 1, 60)) {
                    return -2 - at;
                }
                steps(k);
                return at + 2;
            }
            default:
                return -1 - at;
        }
    }

    private int shipStatement(List<String> t, int at) {
        if (ships.size() == 6) {
            return -1 - at;
        }
        int k = number(t.get(at + 1));
        if (!in(k, 0, 5)) {
            return -2 - at;
        }
        int c = number(t.get(at + 2));
        if (!in(c, 0, n - 1)) {
            return -3 - at;
        }
        int p = number(t.get(at + 3));
        if (!in(p, 0, times[c] - 1)) {
            return -4 - at;
        }
        int d = 0;
        int end = at + 4;
        if (t.get(end).equals("drops")) {
            d = number(t.get(end + 1));
            if (!in(d, 0, 99)) {
                return -2 - end;
            }
            end += 2;
        }
        ships.add(new Ship(k, c, p, d, 0));
        return end;
    }

    int shipOf(int ship, int what) {
        if (!is(ship) || !in(what, 0, 4)) {
            return no(BAD);
        }
        Ship s = ships.get(ship);
        return new int[] {s.kind, s.circle, s.place, s.drops, s.busy}[what];
    }

    private int bitsOn(int circle) {
        int bits = 0;
        for (int i = 0; i < ships.size(); i++) {
            bits |= ships.get(i).circle == circle ? 1 << i : 0;
        }
        return bits;
    }

    int circleOf(int circle, int what) {
        if (!in(circle, 0, n - 1) || !in(what, 0, 2)) {
            return no(BAD);
        }
        return new int[] {times[circle], circle == n - 1 ? 0 : costs[circle], bitsOn(circle)}[what];
    }

    int can(int ship, int change) {
        if (!is(ship) || !in(change, 1, 2)) {
            return no(BAD);
        }
        Ship s = ships.get(ship);
        return s.can(this, change, false) ? costFor(s.kind, change == 1 ? s.circle : s.circle - 1) : NONE;
    }

    int behind(int ship, int t, int what) {
        if (!is(ship) || !in(t, 0, 400) || !in(what, 0, 2)) {
            return no(BAD);
        }
        Ship s = ships.get(ship).drifted(this, t);
        return new int[] {s.circle, s.place, s.busy}[what];
    }

    int meets(int ship, int other) {
        return !two(ship, other) ? no(BAD) : ships.get(ship).with(ships.get(other)) ? 1 : 0;
    }

    private int rowFault(int s, boolean fine, long wanted) {
        if (!in(s, 0, 7) || !fine) {
            return BAD;
        }
        if (shelves[s] instanceof Integer) {
            return OTHER;
        }
        if (shelves[s] == null) {
            return NOTHING;
        }
        return ((long[]) shelves[s]).length < wanted ? BAD : 0;
    }

    /** The SHIP ahead of all and behind each STEP, as far as its codes can be. */
    private List<Ship> track(int s, int k, int ship) {
        List<Ship> list = new ArrayList<>();
        Ship me = ships.get(ship);
        list.add(me);
        for (int i = 0; i < k; i++) {
            long code = ((long[]) shelves[s])[i];
            if (!in(code, 0, 2) || !me.can(this, (int) code, false)) {
                break;
            }
            me = me.flown(this, (int) code);
            list.add(me);
        }
        return list;
    }

    int judge(int s, int k, int ship) {
        int fault = rowFault(s, in(k, 0, 40) && is(ship), k);
        if (fault != 0) {
            return no(fault);
        }
        int good = track(s, k, ship).size() - 1;
        return good == k ? NONE : good;
    }

    int flown(int s, int k, int ship, int what) {
        int fault = rowFault(s, in(k, 0, 40) && is(ship) && in(what, 0, 3), k);
        if (fault != 0) {
            return no(fault);
        }
        List<Ship> list = track(s, k, ship);
        if (list.size() - 1 < k) {
            return no(STUCK);
        }
        Ship e = list.get(k);
        return new int[] {e.circle, e.place, e.drops, e.busy}[what];
    }

    int met(int s, int k, int ship, int other) {
        int fault = rowFault(s, in(k, 0, 40) && two(ship, other), k);
        if (fault != 0) {
            return no(fault);
        }
        List<Ship> list = track(s, k, ship);
        if (list.size() - 1 < k) {
            return no(STUCK);
        }
        for (int i = 0; i <= k; i++) {
            if (list.get(i).with(ships.get(other).drifted(this, i))) {
                return i;
            }
        }
        return NONE;
    }

    /** Every state that a SHIP can be in behind one STEP more; a state is the SHIP with no drops told. */
    private Map<Ship, Track> further(Map<Ship, Track> now, int most) {
        Map<Ship, Track> next = new HashMap<>();
        for (Map.Entry<Ship, Track> e : now.entrySet()) {
            for (int code = 0; code <= 2; code++) {
                if (e.getKey().can(this, code, true)) {
                    Ship to = code == 0 ? e.getKey().stepped(this) : e.getKey().begun(this, code).stepped(this);
                    int lower = code == 1 ? e.getKey().circle : e.getKey().circle - 1;
                    int price = code == 0 ? 0 : costFor(e.getKey().kind, lower);
                    Track track = new Track(e.getValue().drops + price, e.getValue().codes + code);
                    if (track.drops <= most && track.better(next.get(to))) {
                        next.put(to, track);
                    }
                }
            }
        }
        return next;
    }

    private Map<Ship, Track> start(int ship) {
        Ship s = ships.get(ship);
        Map<Ship, Track> now = new HashMap<>();
        now.put(new Ship(s.kind, s.circle, s.place, 0, s.busy), new Track(0, ""));
        return now;
    }

    private Track reaching(Map<Ship, Track> now, Ship goal) {
        Track best = null;
        for (Map.Entry<Ship, Track> e : now.entrySet()) {
            if (e.getKey().with(goal) && e.getValue().better(best)) {
                best = e.getValue();
            }
        }
        return best;
    }

    int cheapest(int ship, int other, int t) {
        if (!two(ship, other) || !in(t, 0, 60)) {
            return no(BAD);
        }
        int best = NONE;
        Map<Ship, Track> now = start(ship);
        for (int i = 0; i <= t; i++) {
            Track track = reaching(now, ships.get(other).drifted(this, i));
            if (track != null && (best == NONE || track.drops < best)) {
                best = track.drops;
            }
            now = further(now, 100000);
        }
        return best;
    }

    private String firstWay(int ship, int other) {
        Map<Ship, Track> now = start(ship);
        for (int i = 0; i <= 60; i++) {
            Track track = reaching(now, ships.get(other).drifted(this, i));
            if (track != null) {
                return track.codes;
            }
            now = further(now, ships.get(ship).drops);
        }
        return null;
    }

    int soonest(int ship, int other) {
        if (!two(ship, other)) {
            return no(BAD);
        }
        String codes = firstWay(ship, other);
        return codes == null ? NONE : codes.length();
    }

    int way(int ship, int other, int i) {
        if (!two(ship, other) || i < 0) {
            return no(BAD);
        }
        String codes = firstWay(ship, other);
        return codes == null || i >= codes.length() ? no(STUCK) : codes.charAt(i) - '0';
    }

    int round(int ship, int set, int t) {
        if (!is(ship) || !in(t, 0, 60) || set < 0 || set >= 1 << ships.size()) {
            return no(BAD);
        }
        if ((set >> ship & 1) != 0 || Integer.bitCount(set) > 3) {
            return no(BAD);
        }
        if (set == 0) {
            return 0;
        }
        Map<Integer, Map<Ship, Track>> now = new HashMap<>();
        now.put(0, start(ship));
        int best = NONE;
        for (int i = 0; i <= t; i++) {
            Map<Integer, Map<Ship, Track>> met = new HashMap<>();
            for (Map.Entry<Integer, Map<Ship, Track>> layer : now.entrySet()) {
                for (Map.Entry<Ship, Track> e : layer.getValue().entrySet()) {
                    int bits = layer.getKey();
                    for (int o = 0; o < ships.size(); o++) {
                        if ((set >> o & 1) != 0 && e.getKey().with(ships.get(o).drifted(this, i))) {
                            bits |= 1 << o;
                        }
                    }
                    // codes say nothing here and would only be long
                    Track track = new Track(e.getValue().drops, "");
                    if (bits == set) {
                        best = best == NONE ? track.drops : Math.min(best, track.drops);
                    } else if (track.better(met.computeIfAbsent(bits, b -> new HashMap<>()).get(e.getKey()))) {
                        met.get(bits).put(e.getKey(), track);
                    }
                }
            }
            now = new HashMap<>();
            for (Map.Entry<Integer, Map<Ship, Track>> layer : met.entrySet()) {
                now.put(layer.getKey(), further(layer.getValue(), 100000));
            }
        }
        return best;
    }

    int home(int ship, int what) {
        if (!is(ship) || !in(what, 0, 1)) {
            return no(BAD);
        }
        Ship s = new Ship(ships.get(ship).kind, ships.get(ship).circle, ships.get(ship).place, 99, ships.get(ship).busy);
        int steps = 0;
        while (s.circle > 0 || s.busy > 0) {
            if (s.circle > 0 && (s.kind == 2 || s.kind == 3 || s.kind == 4)) {
                return no(STUCK);
            }
            s = s.flown(this, s.busy > 0 ? 0 : 2);
            steps++;
        }
        return what == 0 ? 99 - s.drops : steps;
    }

    long again() {
        if (ships.isEmpty() || ships.stream().anyMatch(s -> s.busy > 0)) {
            return NONE;
        }
        for (long t = 1;; t++) {
            long step = t;
            if (ships.stream().allMatch(s -> step % times[s.circle] == 0)) {
                return t;
            }
        }
    }

    int pass(int ship, int other) {
        if (!two(ship, other)) {
            return no(BAD);
        }
        Ship a = ships.get(ship);
        Ship b = ships.get(other);
        int bound = times[a.circle] * times[b.circle];
        for (int t = 0; t < bound; t++) {
            if (a.place * times[b.circle] == b.place * times[a.circle]) {
                return t;
            }
            a = a.stepped(this);
            b = b.stepped(this);
        }
        return NONE;
    }

    int queue(int ship, int g) {
        if (!is(ship) || !in(g, 0, 20)) {
            return no(BAD);
        }
        Ship s = ships.get(ship);
        if (s.kind != 4) {
            return no(STUCK);
        }
        int bits = 0;
        for (int i = 0; i < ships.size(); i++) {
            Ship o = ships.get(i);
            for (int d = 0; d < g; d++) {
                boolean near = (s.place + d) % times[s.circle] == o.place || (o.place + d) % times[s.circle] == s.place;
                if (i != ship && o.circle == s.circle && o.busy == 0 && near) {
                    bits |= 1 << i;
                }
            }
        }
        return bits;
    }

    int fullest() {
        int best = n - 1;
        for (int c = n - 1; c >= 0; c--) {
            if (Integer.bitCount(bitsOn(c)) >= Integer.bitCount(bitsOn(best))) {
                best = c;
            }
        }
        return best;
    }

    int clash(int t) {
        if (!in(t, 0, 60)) {
            return no(BAD);
        }
        for (int i = 0; i <= t; i++) {
            for (int a = 0; a < ships.size(); a++) {
                for (int b = 0; b < a; b++) {
                    if (ships.get(a).drifted(this, i).with(ships.get(b).drifted(this, i))) {
                        return i;
                    }
                }
            }
        }
        return NONE;
    }

    int burnt(int s, int k, int ship) {
        int fault = rowFault(s, in(k, 1, 10) && is(ship), 3L * k);
        if (fault != 0) {
            return no(fault);
        }
        long[] r = (long[]) shelves[s];
        for (int i = 0; i < k; i++) {
            boolean late = in(r[3 * i], i == 0 ? 0 : r[3 * i - 3], 60);
            boolean there = in(r[3 * i + 1], 0, n - 1);
            if (!late || !there || !in(r[3 * i + 2], 0, times[(int) r[3 * i + 1]] - 1)) {
                return no(BAD);
            }
        }
        Map<Ship, Track> now = start(ship);
        int kind = ships.get(ship).kind;
        for (int i = 0; i <= 60; i++) {
            for (int j = 0; j < k; j++) {
                if (r[3 * j] == i) {
                    Ship seen = new Ship(kind, (int) r[3 * j + 1], (int) r[3 * j + 2], 0, 0);
                    now.keySet().removeIf(x -> !x.equals(seen));
                }
            }
            if (i == r[3 * k - 3]) {
                return now.isEmpty() ? NONE : now.values().iterator().next().drops;
            }
            now = further(now, 100000);
        }
        return NONE;
    }

    private boolean wins(Ship a, Ship b, int left) {
        if (a.with(b)) {
            return true;
        }
        boolean any = false;
        for (int x = 2; x >= 0 && left > 0; x--) {
            boolean every = a.can(this, x, false);
            for (int y = 2; y >= 0 && every; y--) {
                every = !b.can(this, y, false) || wins(a.flown(this, x), b.flown(this, y), left - 1);
            }
            any |= every;
        }
        return any;
    }

    int tag(int ship, int other, int t) {
        if (!two(ship, other) || !in(t, 0, 5)) {
            return no(BAD);
        }
        return wins(ships.get(ship), ships.get(other), t) ? 1 : 0;
    }

    private int steps(int k) {
        int sum = 0;
        for (int i = 0; i < k; i++) {
            ships.replaceAll(s -> s.stepped(this));
            clock++;
            for (int a = 0; a < ships.size(); a++) {
                for (int b = 0; b < a; b++) {
                    boolean bolt = ships.get(a).kind == 3 || ships.get(b).kind == 3;
                    sum += bolt && ships.get(a).with(ships.get(b)) ? 1 : 0;
                }
            }
        }
        hits += sum;
        return sum;
    }

    int step(int k) {
        return in(k, 1, 60) ? steps(k) : no(BAD);
    }

    int change(int ship, int change) {
        if (!is(ship) || !in(change, 1, 2)) {
            return no(BAD);
        }
        int price = can(ship, change);
        if (price == NONE) {
            return no(STUCK);
        }
        ships.set(ship, ships.get(ship).begun(this, change).paid(price));
        return price;
    }

    int hand(int ship, int other, int k) {
        if (!two(ship, other) || !in(k, 1, 99)) {
            return no(BAD);
        }
        Ship a = ships.get(ship);
        Ship b = ships.get(other);
        if (a.kind != 5 || !a.with(b) || a.drops < k || b.drops + k > 99) {
            return no(STUCK);
        }
        ships.set(ship, a.paid(k));
        ships.set(other, b.paid(-k));
        return b.drops + k;
    }

    int hurl(int ship, int other, int change) {
        if (!two(ship, other) || !in(change, 1, 2)) {
            return no(BAD);
        }
        Ship a = ships.get(ship);
        Ship b = ships.get(other);
        int target = change == 1 ? b.circle + 1 : b.circle - 1;
        if (a.kind == 2 || a.kind == 3 || b.kind != 2 && b.kind != 3 || !a.with(b) || a.drops == 0 || !in(target, 0, n - 1)) {
            return no(STUCK);
        }
        ships.set(ship, a.paid(1));
        ships.set(other, b.begun(this, change));
        return ships.get(other).busy;
    }

    private int draw(int below) {
        seed = (int) (seed * 1103515245L + 12345L);
        return (int) ((seed & 0xffffffffL) / 65536 % below);
    }

    int bolts(int k) {
        if (!in(k, 1, 6)) {
            return no(BAD);
        }
        int made = 0;
        for (int i = 0; i < k && ships.size() < 6; i++) {
            int circle = draw(n);
            ships.add(new Ship(3, circle, draw(times[circle]), 0, 0));
            made++;
        }
        return made;
    }

    int seed(int v) {
        int was = seed;
        seed = v;
        return was;
    }

    int image() {
        image = all();
        return 1;
    }

    int back() {
        if (image == null) {
            return no(STUCK);
        }
        restore(image);
        for (int s = 0; s < 8; s++) {
            if (shelves[s] instanceof Integer k && k >= ships.size()) {
                shelves[s] = null;
            }
        }
        return 1;
    }

    int status(int what) {
        int busy = 0;
        for (int i = 0; i < ships.size(); i++) {
            busy |= ships.get(i).busy > 0 ? 1 << i : 0;
        }
        int drops = ships.stream().mapToInt(Ship::drops).sum();
        int used = (int) Arrays.stream(shelves).filter(o -> o != null).count();
        int[] told = {n, ships.size(), clock, hits, drops, busy, tape.length(), seed, used};
        if (in(what, 0, 8)) {
            return told[what];
        }
        return in(what, 12, 16) ? refused[what - 12] : NONE;
    }
}
