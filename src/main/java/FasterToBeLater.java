import java.util.Arrays;

/** Ships on circles about a world: what they do in truth, and what would come of what they might do. */
public final class FasterToBeLater {
    public static final int NONE = -1;

    private static final int BAD = -2;
    private static final int OTHER = -3;
    private static final int NOTHING = -4;
    private static final int STUCK = -5;
    private static final int FULL = -6;
    private static final int REFUSAL_SORTS = 5;
    private static final int FAULT_BASE = -20;

    private static final int FEWEST_CIRCLES = 2;
    private static final int MOST_CIRCLES = 6;
    private static final int SHORTEST_TIME = 2;
    private static final int LONGEST_TIME = 20;
    private static final int LEAST_COST = 1;
    private static final int GREATEST_COST = 9;
    private static final int MOST_SHIPS = 6;
    private static final int MOST_DROPS = 99;
    private static final int MOST_STEPS = 60;
    private static final int MOST_DRIFT = 400;
    private static final int MOST_MOVES = 5;
    private static final int MOST_MEMBERS = 3;
    private static final int MOST_SIGHTINGS = 10;
    private static final int WIDEST_QUEUE = 20;
    private static final int TAPE_ROOM = 250;
    private static final int SHELF_COUNT = 8;
    private static final int MOST_ELEMENTS = 40;
    private static final int SHIP_ON_SHELF = 10;

    private static final int SHIP = 0;
    private static final int TUG = 1;
    private static final int PARCEL = 2;
    private static final int BOLT = 3;
    private static final int STATION = 4;
    private static final int TANKER = 5;
    private static final int KINDS = 6;

    private static final int STAY = 0;
    private static final int UP = 1;
    private static final int DOWN = 2;

    private final World present = new World();
    private final World kept = new World();
    private boolean isKept;
    private final Tape tape = new Tape();
    private final Shelf[] shelves = new Shelf[SHELF_COUNT];
    private final int[] refusals = new int[REFUSAL_SORTS];
    private final Vessel flyer = new Vessel();
    private final Vessel drifter = new Vessel();
    /** Made when it is first asked, since its rows are long. */
    private Planner planner;
    private Chase chase;

    public FasterToBeLater() {
        for (int s = 0; s < SHELF_COUNT; s++) {
            shelves[s] = new Shelf();
        }
    }

    public int row(int s, int sort, int n) {
        if (!isShelf(s) || sort < 0 || sort >= Shelf.SORTS || n < 0 || n > MOST_ELEMENTS) {
            return refuse(BAD);
        }
        shelves[s].beRow(sort, n);
        return 1;
    }

    public int set(int s, int i, long v) {
        int refusal = rowRefusal(s, true, 0);
        if (refusal != 0) {
            return refuse(refusal);
        }
        Shelf shelf = shelves[s];
        if (i < 0 || i >= shelf.size) {
            return refuse(BAD);
        }
        shelf.put(i, v);
        return 1;
    }

    public int copy(int p, int q, int i, int j, int n) {
        if (!isShelf(p) || !isShelf(q)) {
            return refuse(BAD);
        }
        Shelf from = shelves[p];
        Shelf to = shelves[q];
        boolean unlike = from.isRow() && to.isRow() && from.content != to.content;
        if (from.isShip() || to.isShip() || unlike) {
            return refuse(OTHER);
        }
        if (from.isEmpty() || to.isEmpty()) {
            return refuse(NOTHING);
        }
        if (!from.hasPart(i, n) || !to.hasPart(j, n)) {
            return refuse(BAD);
        }
        System.arraycopy(from.elements, i, to.elements, j, n);
        return n;
    }

    public long element(int s, int i) {
        if (!isShelf(s) || !shelves[s].isRow() || i < 0 || i >= shelves[s].size) {
            return 0;
        }
        return shelves[s].elements[i];
    }

    public int holds(int s) {
        return isShelf(s) ? shelves[s].content : NONE;
    }

    public int show(int s, int ship) {
        if (!isShelf(s) || ship != NONE && !present.hasShip(ship)) {
            return refuse(BAD);
        }
        if (ship == NONE) {
            shelves[s].beEmpty();
        } else {
            shelves[s].beShip(ship);
        }
        return 1;
    }

    public int says(int s, int kind) {
        if (!isShelf(s) || !isKind(kind)) {
            return refuse(BAD);
        }
        Shelf shelf = shelves[s];
        int ship = shelf.shipNumber();
        boolean isThere = present.hasShip(ship);
        if (shelf.isRow() || isThere && !present.ships[ship].isOf(kind)) {
            return refuse(OTHER);
        }
        return isThere ? saying(ship, kind) : refuse(NOTHING);
    }

    public int circles(int n) {
        if (n < FEWEST_CIRCLES || n > MOST_CIRCLES) {
            return refuse(BAD);
        }
        if (present.shipCount > 0) {
            return refuse(STUCK);
        }
        int ahead = present.circleCount;
        present.circleCount = n;
        return ahead;
    }

    public int time(int circle, int v) {
        if (!present.hasCircle(circle) || v < SHORTEST_TIME || v > LONGEST_TIME) {
            return refuse(BAD);
        }
        if (present.shipsOn(circle) != 0) {
            return refuse(STUCK);
        }
        int ahead = present.times[circle];
        present.times[circle] = v;
        return ahead;
    }

    public int cost(int circle, int v) {
        if (!present.hasCircleAbove(circle) || v < LEAST_COST || v > GREATEST_COST) {
            return refuse(BAD);
        }
        int ahead = present.costs[circle];
        present.costs[circle] = v;
        return ahead;
    }

    public int ship(int kind, int circle, int place, int drops) {
        if (!isKind(kind) || !present.hasPlace(circle, place) || !areDrops(drops)) {
            return refuse(BAD);
        }
        if (present.isFull()) {
            return refuse(FULL);
        }
        return present.addShip(kind, circle, place, drops);
    }

    public int fill(int ship, int v) {
        if (!present.hasShip(ship) || !areDrops(v)) {
            return refuse(BAD);
        }
        int ahead = present.ships[ship].drops;
        present.ships[ship].drops = v;
        return ahead;
    }

    public int feed(int letter) {
        if (letter < 0 || letter > 255) {
            return refuse(BAD);
        }
        if (tape.size >= TAPE_ROOM) {
            return refuse(FULL);
        }
        tape.letters[tape.size] = letter;
        tape.size++;
        return tape.size;
    }

    public int wipe() {
        int ahead = tape.size;
        tape.size = 0;
        return ahead;
    }

    public int world() {
        int statements = tape.read(present);
        tape.size = 0;
        if (tape.fault != NONE) {
            refuse(BAD);
            return FAULT_BASE - tape.fault;
        }
        present.become(tape.draft);
        return statements;
    }

    public int shipOf(int ship, int what) {
        if (!present.hasShip(ship)) {
            return refuse(BAD);
        }
        Vessel vessel = present.ships[ship];
        switch (what) {
            case 0:
                return vessel.kind;
            case 1:
                return vessel.circle;
            case 2:
                return vessel.place;
            case 3:
                return vessel.drops;
            case 4:
                return vessel.busy;
            default:
                return refuse(BAD);
        }
    }

    public int circleOf(int circle, int what) {
        if (!present.hasCircle(circle)) {
            return refuse(BAD);
        }
        switch (what) {
            case 0:
                return present.times[circle];
            case 1:
                return present.hasCircleAbove(circle) ? present.costs[circle] : 0;
            case 2:
                return present.shipsOn(circle);
            default:
                return refuse(BAD);
        }
    }

    public int can(int ship, int change) {
        if (!present.hasShip(ship) || !isChange(change)) {
            return refuse(BAD);
        }
        Vessel vessel = present.ships[ship];
        return present.isAble(vessel, change) ? present.price(vessel, vessel.circle, change) : NONE;
    }

    public int behind(int ship, int t, int what) {
        if (!present.hasShip(ship) || t < 0 || t > MOST_DRIFT) {
            return refuse(BAD);
        }
        Vessel vessel = present.ships[ship];
        switch (what) {
            case 0:
                return vessel.circle;
            case 1:
                return present.placeBehind(vessel, t);
            case 2:
                return vessel.busyBehind(t);
            default:
                return refuse(BAD);
        }
    }

    public int meets(int ship, int other) {
        if (!present.hasPair(ship, other)) {
            return refuse(BAD);
        }
        return present.ships[ship].isWith(present.ships[other]) ? 1 : 0;
    }

    public int judge(int s, int n, int ship) {
        int refusal = rowRefusal(s, isFlight(n, ship), n);
        return refusal != 0 ? refuse(refusal) : firstWrongCode(shelves[s], n, ship);
    }

    public int flown(int s, int n, int ship, int what) {
        int refusal = rowRefusal(s, isFlight(n, ship) && what >= 0 && what <= 3, n);
        if (refusal != 0) {
            return refuse(refusal);
        }
        if (firstWrongCode(shelves[s], n, ship) != NONE) {
            return refuse(STUCK);
        }
        switch (what) {
            case 0:
                return flyer.circle;
            case 1:
                return flyer.place;
            case 2:
                return flyer.drops;
            default:
                return flyer.busy;
        }
    }

    public int met(int s, int n, int ship, int other) {
        int refusal = rowRefusal(s, isFlight(n, ship) && present.hasPair(ship, other), n);
        if (refusal != 0) {
            return refuse(refusal);
        }
        if (firstWrongCode(shelves[s], n, ship) != NONE) {
            return refuse(STUCK);
        }
        return firstMeeting(shelves[s], n, ship, other);
    }

    public int cheapest(int ship, int other, int t) {
        if (!present.hasPair(ship, other) || !areSteps(t)) {
            return refuse(BAD);
        }
        return thinking().fewestDrops(present.ships[ship], 1 << other, t);
    }

    public int soonest(int ship, int other) {
        if (!present.hasPair(ship, other)) {
            return refuse(BAD);
        }
        return thinking().firstStep(present.ships[ship], 1 << other);
    }

    public int way(int ship, int other, int i) {
        if (!present.hasPair(ship, other) || i < 0) {
            return refuse(BAD);
        }
        int code = thinking().codeOfWay(present.ships[ship], other, i);
        return code == NONE ? refuse(STUCK) : code;
    }

    public int round(int ship, int set, int t) {
        if (!present.hasShip(ship) || !areSteps(t) || !isSetOfOthers(ship, set)) {
            return refuse(BAD);
        }
        return set == 0 ? 0 : thinking().fewestDrops(present.ships[ship], set, t);
    }

    public int home(int ship, int what) {
        if (!present.hasShip(ship) || what < 0 || what > 1) {
            return refuse(BAD);
        }
        Vessel vessel = present.ships[ship];
        if (vessel.circle > 0 && !vessel.steers()) {
            return refuse(STUCK);
        }
        int drops = 0;
        int steps = vessel.busy;
        for (int circle = vessel.circle; circle > 0; circle--) {
            drops += present.price(vessel, circle, DOWN);
            steps += present.crossing(circle);
        }
        return what == 0 ? drops : steps;
    }

    public long again() {
        if (present.shipCount == 0) {
            return NONE;
        }
        long steps = 1;
        for (int i = 0; i < present.shipCount; i++) {
            Vessel vessel = present.ships[i];
            if (vessel.busy > 0) {
                return NONE;
            }
            steps = leastCommonMultiple(steps, present.timeOf(vessel.circle));
        }
        return steps;
    }

    public int pass(int ship, int other) {
        if (!present.hasPair(ship, other)) {
            return refuse(BAD);
        }
        Vessel one = present.ships[ship];
        Vessel two = present.ships[other];
        int timeOfOne = present.timeOf(one.circle);
        int timeOfTwo = present.timeOf(two.circle);
        for (int t = 0; t < timeOfOne * timeOfTwo; t++) {
            if (present.placeBehind(one, t) * timeOfTwo == present.placeBehind(two, t) * timeOfOne) {
                return t;
            }
        }
        return NONE;
    }

    public int queue(int ship, int g) {
        if (!present.hasShip(ship) || g < 0 || g > WIDEST_QUEUE) {
            return refuse(BAD);
        }
        if (present.ships[ship].kind != STATION) {
            return refuse(STUCK);
        }
        return queueAt(ship, g);
    }

    public int fullest() {
        int found = 0;
        for (int circle = 1; circle < present.circleCount; circle++) {
            if (Integer.bitCount(present.shipsOn(circle)) > Integer.bitCount(present.shipsOn(found))) {
                found = circle;
            }
        }
        return found;
    }

    public int clash(int t) {
        if (!areSteps(t)) {
            return refuse(BAD);
        }
        for (int step = 0; step <= t; step++) {
            if (present.isClashBehind(step)) {
                return step;
            }
        }
        return NONE;
    }

    public int burnt(int s, int n, int ship) {
        boolean fine = n >= 1 && n <= MOST_SIGHTINGS && present.hasShip(ship);
        int refusal = rowRefusal(s, fine, fine ? 3 * n : 0);
        if (refusal != 0) {
            return refuse(refusal);
        }
        if (!areSightings(shelves[s], n)) {
            return refuse(BAD);
        }
        return thinking().dropsThrough(present.ships[ship], shelves[s], n);
    }

    public int tag(int ship, int other, int t) {
        if (!present.hasPair(ship, other) || t < 0 || t > MOST_MOVES) {
            return refuse(BAD);
        }
        if (chase == null) {
            chase = new Chase(present);
        }
        return chase.isWon(ship, other, t) ? 1 : 0;
    }

    public int step(int n) {
        if (n < 1 || n > MOST_STEPS) {
            return refuse(BAD);
        }
        return present.advance(n);
    }

    public int change(int ship, int change) {
        if (!present.hasShip(ship) || !isChange(change)) {
            return refuse(BAD);
        }
        Vessel vessel = present.ships[ship];
        if (!present.isAble(vessel, change)) {
            return refuse(STUCK);
        }
        int price = present.price(vessel, vessel.circle, change);
        vessel.drops -= price;
        present.send(vessel, change);
        return price;
    }

    public int hand(int ship, int other, int n) {
        if (!present.hasPair(ship, other) || n < 1 || n > MOST_DROPS) {
            return refuse(BAD);
        }
        Vessel giver = present.ships[ship];
        Vessel taker = present.ships[other];
        boolean isRight = giver.kind == TANKER && giver.isWith(taker);
        if (!isRight || giver.drops < n || taker.drops + n > MOST_DROPS) {
            return refuse(STUCK);
        }
        giver.drops -= n;
        taker.drops += n;
        return taker.drops;
    }

    public int hurl(int ship, int other, int change) {
        if (!present.hasPair(ship, other) || !isChange(change)) {
            return refuse(BAD);
        }
        Vessel thrower = present.ships[ship];
        Vessel thrown = present.ships[other];
        boolean isRight = thrown.isOf(PARCEL) && !thrower.isOf(PARCEL) && thrower.isWith(thrown);
        if (!isRight || thrower.drops < 1 || !present.hasCircleNext(thrown.circle, change)) {
            return refuse(STUCK);
        }
        thrower.drops--;
        present.send(thrown, change);
        return thrown.busy;
    }

    public int bolts(int n) {
        if (n < 1 || n > MOST_SHIPS) {
            return refuse(BAD);
        }
        int made = 0;
        while (made < n && !present.isFull()) {
            int circle = present.draw(present.circleCount);
            int place = present.draw(present.timeOf(circle));
            present.addShip(BOLT, circle, place, 0);
            made++;
        }
        return made;
    }

    public int seed(int v) {
        int ahead = present.seed;
        present.seed = v;
        return ahead;
    }

    public int image() {
        kept.become(present);
        isKept = true;
        return 1;
    }

    public int back() {
        if (!isKept) {
            return refuse(STUCK);
        }
        present.become(kept);
        for (int s = 0; s < SHELF_COUNT; s++) {
            if (shelves[s].isShip() && !present.hasShip(shelves[s].shipNumber())) {
                shelves[s].beEmpty();
            }
        }
        return 1;
    }

    public int status(int what) {
        switch (what) {
            case 0:
                return present.circleCount;
            case 1:
                return present.shipCount;
            case 2:
                return present.clock;
            case 3:
                return present.hits;
            case 4:
                return present.allDrops();
            case 5:
                return present.busyShips();
            case 6:
                return tape.size;
            case 7:
                return present.seed;
            case 8:
                return shelvesInUse();
            default:
                return refusalsOf(what - 12);
        }
    }

    private int refuse(int number) {
        int sort = BAD - number;
        if (sort >= 0 && sort < REFUSAL_SORTS) {
            refusals[sort]++;
        }
        return number;
    }

    private int refusalsOf(int sort) {
        return sort >= 0 && sort < REFUSAL_SORTS ? refusals[sort] : NONE;
    }

    private int shelvesInUse() {
        int used = 0;
        for (int s = 0; s < SHELF_COUNT; s++) {
            if (!shelves[s].isEmpty()) {
                used++;
            }
        }
        return used;
    }

    /** Why the ROW in a SHELF can't be read, in the order that all such calls have; 0: it can. */
    private int rowRefusal(int s, boolean areOthersFine, int wanted) {
        if (!isShelf(s) || !areOthersFine) {
            return BAD;
        }
        Shelf shelf = shelves[s];
        if (shelf.isShip()) {
            return OTHER;
        }
        if (shelf.isEmpty()) {
            return NOTHING;
        }
        return shelf.size < wanted ? BAD : 0;
    }

    private int saying(int ship, int kind) {
        Vessel vessel = present.ships[ship];
        switch (kind) {
            case TUG:
                return Math.max(0, present.price(vessel, vessel.circle, UP));
            case PARCEL:
                return present.countMet(ship);
            case BOLT:
                return Integer.bitCount(present.idleOn(vessel.circle) & ~(1 << ship));
            case STATION:
                return present.timeOf(vessel.circle) - 1;
            case TANKER:
                return (present.shipCount - 1) * MOST_DROPS - (present.allDrops() - vessel.drops);
            default:
                return vessel.drops;
        }
    }

    /** The first code that can't be, or NONE; the flyer is then behind all that could be. */
    private int firstWrongCode(Shelf codes, int n, int ship) {
        flyer.become(present.ships[ship]);
        for (int i = 0; i < n && i < codes.size; i++) {
            if (!present.fly(flyer, codes.elements[i])) {
                return i;
            }
        }
        return NONE;
    }

    private int firstMeeting(Shelf codes, int n, int ship, int other) {
        flyer.become(present.ships[ship]);
        drifter.become(present.ships[other]);
        for (int i = 0; i < n && i < codes.size; i++) {
            if (flyer.isWith(drifter)) {
                return i;
            }
            present.fly(flyer, codes.elements[i]);
            present.drift(drifter);
        }
        return flyer.isWith(drifter) ? n : NONE;
    }

    private int queueAt(int station, int g) {
        Vessel host = present.ships[station];
        int time = present.timeOf(host.circle);
        int idle = present.idleOn(host.circle);
        int found = 0;
        for (int i = 0; i < present.shipCount; i++) {
            int apart = Math.abs(present.ships[i].place - host.place);
            boolean isNear = Math.min(apart, time - apart) < g;
            if (i != station && (idle & 1 << i) != 0 && isNear) {
                found |= 1 << i;
            }
        }
        return found;
    }

    private boolean areSightings(Shelf row, int n) {
        long ahead = 0;
        for (int i = 0; i < n && 3 * i + 2 < row.size; i++) {
            long step = row.elements[3 * i];
            long circle = row.elements[3 * i + 1];
            long place = row.elements[3 * i + 2];
            if (step < ahead || step > MOST_STEPS || circle < 0 || circle >= present.circleCount) {
                return false;
            }
            if (place < 0 || place >= present.timeOf((int) circle)) {
                return false;
            }
            ahead = step;
        }
        return true;
    }

    private boolean isSetOfOthers(int ship, int set) {
        boolean areThere = set >> present.shipCount == 0;
        return areThere && (set & 1 << ship) == 0 && Integer.bitCount(set) <= MOST_MEMBERS;
    }

    private boolean isFlight(int n, int ship) {
        return n >= 0 && n <= MOST_ELEMENTS && present.hasShip(ship);
    }

    private Planner thinking() {
        if (planner == null) {
            planner = new Planner(present);
        }
        return planner;
    }

    private static boolean isShelf(int s) {
        return s >= 0 && s < SHELF_COUNT;
    }

    private static boolean isKind(int kind) {
        return kind >= 0 && kind < KINDS;
    }

    private static boolean isChange(int change) {
        return change == UP || change == DOWN;
    }

    private static boolean areDrops(int drops) {
        return drops >= 0 && drops <= MOST_DROPS;
    }

    private static boolean areSteps(int t) {
        return t >= 0 && t <= MOST_STEPS;
    }

    private static int modulo(int value, int by) {
        return by > 0 ? value % by : 0;
    }

    private static long leastCommonMultiple(long one, int two) {
        if (one < 1 || two < 1) {
            return one;
        }
        // of two multiples of one, the first that two divides is at most two times one
        for (int i = 1; i < two; i++) {
            if (one * i % two == 0) {
                return one * i;
            }
        }
        return one * two;
    }

    /** One that goes round, in truth or, as a copy, in thought. */
    private static final class Vessel {
        int kind;
        int circle;
        int place;
        int drops;
        int busy;

        void become(Vessel other) {
            kind = other.kind;
            circle = other.circle;
            place = other.place;
            drops = other.drops;
            busy = other.busy;
        }

        boolean isWith(Vessel other) {
            return busy == 0 && other.busy == 0 && circle == other.circle && place == other.place;
        }

        boolean isOf(int wanted) {
            switch (wanted) {
                case SHIP:
                    return true;
                case TUG:
                    return kind == TUG || kind == TANKER;
                case PARCEL:
                    return kind == PARCEL || kind == BOLT;
                default:
                    return kind == wanted;
            }
        }

        boolean steers() {
            return kind == SHIP || isOf(TUG);
        }

        int busyBehind(int t) {
            return Math.max(0, busy - t);
        }
    }

    /** All that an image keeps: CIRCLES, SHIPS and what has come of the STEPS so far. */
    private static final class World {
        int circleCount = 4;
        final int[] times = {4, 6, 8, 10, 12, 14};
        final int[] costs = {1, 1, 1, 1, 1};
        int shipCount;
        final Vessel[] ships = new Vessel[MOST_SHIPS];
        int clock;
        int hits;
        int seed = 1;

        World() {
            for (int i = 0; i < MOST_SHIPS; i++) {
                ships[i] = new Vessel();
            }
        }

        void become(World other) {
            circleCount = other.circleCount;
            System.arraycopy(other.times, 0, times, 0, times.length);
            System.arraycopy(other.costs, 0, costs, 0, costs.length);
            shipCount = other.shipCount;
            for (int i = 0; i < MOST_SHIPS; i++) {
                ships[i].become(other.ships[i]);
            }
            clock = other.clock;
            hits = other.hits;
            seed = other.seed;
        }

        boolean hasCircle(int circle) {
            return circle >= 0 && circle < circleCount;
        }

        boolean hasCircleAbove(int circle) {
            return circle >= 0 && circle < circleCount - 1;
        }

        boolean hasCircleNext(int circle, int change) {
            return hasCircle(next(circle, change));
        }

        boolean hasPlace(int circle, int place) {
            return hasCircle(circle) && place >= 0 && place < times[circle];
        }

        boolean hasShip(int ship) {
            return ship >= 0 && ship < shipCount;
        }

        boolean hasPair(int ship, int other) {
            return hasShip(ship) && hasShip(other) && ship != other;
        }

        boolean isFull() {
            return shipCount >= MOST_SHIPS;
        }

        int timeOf(int circle) {
            return circle >= 0 && circle < circleCount ? times[circle] : SHORTEST_TIME;
        }

        int next(int circle, int change) {
            return change == UP ? circle + 1 : circle - 1;
        }

        int addShip(int kind, int circle, int place, int drops) {
            if (isFull()) {
                return NONE;
            }
            Vessel vessel = ships[shipCount];
            vessel.kind = kind;
            vessel.circle = circle;
            vessel.place = place;
            vessel.drops = drops;
            vessel.busy = 0;
            shipCount++;
            return shipCount - 1;
        }

        int shipsOn(int circle) {
            int found = 0;
            for (int i = 0; i < shipCount; i++) {
                if (ships[i].circle == circle) {
                    found |= 1 << i;
                }
            }
            return found;
        }

        int busyShips() {
            int found = 0;
            for (int i = 0; i < shipCount; i++) {
                if (ships[i].busy > 0) {
                    found |= 1 << i;
                }
            }
            return found;
        }

        int idleOn(int circle) {
            return shipsOn(circle) & ~busyShips();
        }

        int allDrops() {
            int sum = 0;
            for (int i = 0; i < shipCount; i++) {
                sum += ships[i].drops;
            }
            return sum;
        }

        int countMet(int ship) {
            int count = 0;
            for (int i = 0; i < shipCount; i++) {
                if (i != ship && ships[i].isWith(ships[ship])) {
                    count++;
                }
            }
            return count;
        }

        /** What a CHANGE from a CIRCLE costs one like this; NONE: there is no such CIRCLE. */
        int price(Vessel vessel, int circle, int change) {
            int lower = Math.min(circle, next(circle, change));
            if (!hasCircleAbove(lower)) {
                return NONE;
            }
            return vessel.isOf(TUG) ? (costs[lower] + 1) / 2 : costs[lower];
        }

        int crossing(int circle) {
            return Math.max(1, timeOf(circle) / 2);
        }

        int landing(int circle, int place, int target) {
            int time = timeOf(circle);
            int other = timeOf(target);
            int across = time > 0 ? place * other / time : 0;
            return modulo(across + other / 2, other);
        }

        boolean isAble(Vessel vessel, int change) {
            if (vessel.busy > 0 || !vessel.steers()) {
                return false;
            }
            int price = price(vessel, vessel.circle, change);
            return price != NONE && vessel.drops >= price;
        }

        /** Begins a CHANGE that can be, and takes no drops for it: a thrown one pays none. */
        void send(Vessel vessel, int change) {
            int target = next(vessel.circle, change);
            vessel.busy = crossing(vessel.circle);
            vessel.place = landing(vessel.circle, vessel.place, target);
            vessel.circle = target;
        }

        void drift(Vessel vessel) {
            if (vessel.busy > 0) {
                vessel.busy--;
            } else {
                vessel.place = modulo(vessel.place + 1, timeOf(vessel.circle));
            }
        }

        int placeBehind(Vessel vessel, int t) {
            return modulo(vessel.place + Math.max(0, t - vessel.busy), timeOf(vessel.circle));
        }

        /** Does what a code says, then a STEP; false, and nothing is done: the code can't be. */
        boolean fly(Vessel vessel, long code) {
            if (code == UP || code == DOWN) {
                int change = (int) code;
                if (!isAble(vessel, change)) {
                    return false;
                }
                vessel.drops -= price(vessel, vessel.circle, change);
                send(vessel, change);
            } else if (code != STAY) {
                return false;
            }
            drift(vessel);
            return true;
        }

        int advance(int n) {
            int ahead = hits;
            for (int i = 0; i < n; i++) {
                for (int j = 0; j < shipCount; j++) {
                    drift(ships[j]);
                }
                hits += pairsHit();
            }
            clock += n;
            return hits - ahead;
        }

        private int pairsHit() {
            int count = 0;
            for (int i = 0; i < shipCount; i++) {
                for (int j = i + 1; j < shipCount; j++) {
                    boolean hasBolt = ships[i].kind == BOLT || ships[j].kind == BOLT;
                    if (hasBolt && ships[i].isWith(ships[j])) {
                        count++;
                    }
                }
            }
            return count;
        }

        boolean isClashBehind(int t) {
            for (int i = 0; i < shipCount; i++) {
                for (int j = i + 1; j < shipCount; j++) {
                    int spot = spotBehind(ships[i], t);
                    if (spot != NONE && spot == spotBehind(ships[j], t)) {
                        return true;
                    }
                }
            }
            return false;
        }

        /** CIRCLE and PLACE in one number. */
        int spotOf(Vessel vessel) {
            return vessel.circle * LONGEST_TIME + vessel.place;
        }

        /** The same behind t STEPS; NONE: it is BUSY then. */
        int spotBehind(Vessel vessel, int t) {
            if (vessel.busyBehind(t) > 0) {
                return NONE;
            }
            return vessel.circle * LONGEST_TIME + placeBehind(vessel, t);
        }

        int draw(int below) {
            seed = seed * 1103515245 + 12345;
            return modulo(seed >>> 16, below);
        }
    }

    /** What a SHELF holds; its row of elements is made once and used again. */
    private static final class Shelf {
        static final int SORTS = 5;

        /** As holds tells it: NONE, a SORT, or SHIP_ON_SHELF and a SHIP's number. */
        int content = NONE;
        int size;
        final long[] elements = new long[MOST_ELEMENTS];

        boolean isEmpty() {
            return content == NONE;
        }

        boolean isShip() {
            return content >= SHIP_ON_SHELF;
        }

        boolean isRow() {
            return content >= 0 && content < SORTS;
        }

        int shipNumber() {
            return isShip() ? content - SHIP_ON_SHELF : NONE;
        }

        void beEmpty() {
            content = NONE;
            size = 0;
        }

        void beShip(int ship) {
            content = SHIP_ON_SHELF + ship;
            size = 0;
        }

        void beRow(int sort, int n) {
            content = sort;
            size = n;
            Arrays.fill(elements, 0L);
        }

        boolean hasPart(int from, int n) {
            return from >= 0 && n >= 0 && from <= size && n <= size - from;
        }

        void put(int i, long v) {
            elements[i] = narrowed(v);
        }

        private long narrowed(long v) {
            switch (content) {
                case 0:
                    return (byte) v;
                case 1:
                    return (short) v;
                case 2:
                    return (int) v;
                case 4:
                    return v != 0 ? 1 : 0;
                default:
                    return v;
            }
        }
    }

    /** THE TAPE, which reads its own STATEMENTS; each comes to the draft at once: later ones stand on it. */
    private static final class Tape {
        private static final int END = 0;
        private static final int WORD = 1;
        private static final int NUMBER = 2;
        private static final int SEMICOLON = 3;
        private static final int STRANGE = 4;
        private static final int BLANK = 32;
        private static final int MOST_DIGITS = 2;

        final int[] letters = new int[TAPE_ROOM];
        int size;
        /** What there will be, apart from what there is, since a FAULT further on leaves nothing behind. */
        final World draft = new World();
        /** Of the TOKEN that comes next. */
        private int sort;
        private int start;
        private int end;
        /** Where the first FAULT is; NONE as long as there is none. */
        int fault = NONE;

        /** How many STATEMENTS there were; what it answers means nothing if there is a fault. */
        int read(World present) {
            draft.become(present);
            fault = NONE;
            end = 0;
            takeToken();
            int statements = 0;
            // no STATEMENT is shorter than one byte
            while (statements <= size) {
                readStatement();
                if (fault != NONE) {
                    return statements;
                }
                statements++;
                if (sort == END) {
                    return statements;
                }
                if (sort != SEMICOLON) {
                    fault = start;
                    return statements;
                }
                takeToken();
            }
            return statements;
        }

        private void readStatement() {
            if (isWord("circles")) {
                readCircles();
            } else if (isWord("time")) {
                readTime();
            } else if (isWord("cost")) {
                readCost();
            } else if (isWord("ship")) {
                readShip();
            } else if (isWord("step")) {
                readSteps();
            } else {
                fault = start;
            }
        }

        private void readCircles() {
            if (draft.shipCount > 0) {
                fault = start;
                return;
            }
            takeToken();
            int n = readNumber(FEWEST_CIRCLES, MOST_CIRCLES);
            if (fault == NONE) {
                draft.circleCount = n;
            }
        }

        private void readTime() {
            takeToken();
            int placeOfCircle = start;
            int circle = readNumber(0, draft.circleCount - 1);
            if (fault == NONE && draft.shipsOn(circle) != 0) {
                fault = placeOfCircle;
            }
            int v = readNumber(SHORTEST_TIME, LONGEST_TIME);
            if (fault == NONE) {
                draft.times[circle] = v;
            }
        }

        private void readCost() {
            takeToken();
            int circle = readNumber(0, draft.circleCount - 2);
            int v = readNumber(LEAST_COST, GREATEST_COST);
            if (fault == NONE) {
                draft.costs[circle] = v;
            }
        }

        private void readShip() {
            if (draft.isFull()) {
                fault = start;
                return;
            }
            takeToken();
            int kind = readNumber(0, KINDS - 1);
            int circle = readNumber(0, draft.circleCount - 1);
            int place = readNumber(0, draft.timeOf(circle) - 1);
            int drops = 0;
            if (fault == NONE && isWord("drops")) {
                takeToken();
                drops = readNumber(0, MOST_DROPS);
            }
            if (fault == NONE) {
                draft.addShip(kind, circle, place, drops);
            }
        }

        private void readSteps() {
            takeToken();
            int n = readNumber(1, MOST_STEPS);
            if (fault == NONE) {
                draft.advance(n);
            }
        }

        /** The NUMBER that comes next; behind a fault nothing is read, so that the first one stays. */
        private int readNumber(int least, int greatest) {
            if (fault != NONE) {
                return NONE;
            }
            int value = sort == NUMBER && end - start <= MOST_DIGITS ? numberHere() : NONE;
            if (value < least || value > greatest) {
                fault = start;
                return NONE;
            }
            takeToken();
            return value;
        }

        private int numberHere() {
            int value = 0;
            for (int i = start; i < end && i < size; i++) {
                value = value * 10 + letters[i] - '0';
            }
            return value;
        }

        private boolean isWord(String word) {
            if (sort != WORD || end - start != word.length()) {
                return false;
            }
            for (int i = 0; i < word.length() && start + i < size; i++) {
                if (letters[start + i] != word.charAt(i)) {
                    return false;
                }
            }
            return true;
        }

        private void takeToken() {
            int at = end;
            while (at < size && letters[at] == BLANK) {
                at++;
            }
            start = at;
            sort = sortAt(at);
            boolean isLong = sort == WORD || sort == NUMBER;
            at++;
            while (isLong && at < size && sortAt(at) == sort) {
                at++;
            }
            end = Math.min(at, size);
        }

        private int sortAt(int at) {
            if (at < 0 || at >= size) {
                return END;
            }
            int letter = letters[at];
            if (letter >= 'a' && letter <= 'z') {
                return WORD;
            }
            if (letter >= '0' && letter <= '9') {
                return NUMBER;
            }
            return letter == ';' ? SEMICOLON : STRANGE;
        }
    }

    /** Finds FLIGHTS of the fewest drops, STEP by STEP over all spots where a SHIP may be. */
    private static final class Planner {
        private static final int FAR = 1000000;
        private static final int CODES = 3;
        private static final int SPOTS = MOST_CIRCLES * LONGEST_TIME;
        /** A CHANGE lasts half of the longest TIME at most: so many STEPS ahead are in use at once. */
        private static final int SLOTS = LONGEST_TIME / 2 + 1;
        /** Sets of others that have been MET; the whole set ends a search and is never kept. */
        private static final int SETS = (1 << MOST_MEMBERS) - 1;

        private final World sky;
        /** The spots that there are in this sky, lowest first. */
        private final int[] spots = new int[SPOTS];
        private int spotCount;
        /** For each code and spot: the spot it leads to (NONE: it can't be), its STEPS and its drops. */
        private final int[][] targets = new int[CODES][SPOTS];
        private final int[][] lengths = new int[CODES][SPOTS];
        private final int[][] prices = new int[CODES][SPOTS];
        /** For each set, the fewest drops with which a spot is reached at a STEP near the present one. */
        private final int[][] ring = new int[SETS][SLOTS * SPOTS];
        /** For each STEP and spot, the fewest drops from there to a meeting. */
        private final int[] toGo = new int[(MOST_STEPS + 1) * SPOTS];
        private final int[] members = new int[MOST_MEMBERS];
        private final int[] memberSpots = new int[MOST_MEMBERS];
        private int memberCount;
        /** The set of all members. */
        private int whole;
        /** Drops above which nothing is of use. */
        private int limit;
        private int fewest;
        private int first;

        Planner(World sky) {
            this.sky = sky;
        }

        int fewestDrops(Vessel vessel, int set, int last) {
            prepare(vessel, set, FAR - 1);
            for (int step = vessel.busy; step <= last && limit >= 0; step++) {
                visit(step);
            }
            return fewest;
        }

        int firstStep(Vessel vessel, int set) {
            prepare(vessel, set, vessel.drops);
            for (int step = vessel.busy; step <= MOST_STEPS && first == NONE; step++) {
                visit(step);
            }
            return first;
        }

        /** The fewest drops through all the sightings of a row that has been found good. */
        int dropsThrough(Vessel vessel, Shelf row, int n) {
            prepare(vessel, 0, FAR - 1);
            int step = vessel.busy;
            int drops = NONE;
            for (int i = 0; i < n && 3 * i + 2 < row.size; i++) {
                int sighted = (int) row.elements[3 * i];
                int spot = (int) row.elements[3 * i + 1] * LONGEST_TIME + (int) row.elements[3 * i + 2];
                if (sighted < step) {
                    return NONE;
                }
                for (; step < sighted; step++) {
                    visit(step);
                }
                drops = keepOnly(step, spot);
                if (drops == NONE) {
                    return NONE;
                }
            }
            return drops;
        }

        /** Forgets all that is not at this spot at this STEP; NONE: then nothing is left. */
        private int keepOnly(int step, int spot) {
            int index = slotOf(step) + spot;
            int drops = ring[0][index];
            Arrays.fill(ring[0], FAR);
            ring[0][index] = drops;
            return drops == FAR ? NONE : drops;
        }

        private void prepare(Vessel vessel, int set, int most) {
            chart(vessel);
            gather(set);
            for (int met = 0; met < whole && met < SETS; met++) {
                Arrays.fill(ring[met], FAR);
            }
            limit = most;
            fewest = NONE;
            first = NONE;
            ring[0][slotOf(vessel.busy) + sky.spotOf(vessel)] = 0;
        }

        /** Writes down where each code leads from each spot, since a search asks it over and over. */
        private void chart(Vessel vessel) {
            spotCount = 0;
            for (int circle = 0; circle < sky.circleCount; circle++) {
                int time = sky.timeOf(circle);
                for (int place = 0; place < time; place++) {
                    int spot = circle * LONGEST_TIME + place;
                    spots[spotCount] = spot;
                    spotCount++;
                    targets[STAY][spot] = circle * LONGEST_TIME + modulo(place + 1, time);
                    lengths[STAY][spot] = 1;
                    prices[STAY][spot] = 0;
                    chartChange(vessel, UP, circle, place);
                    chartChange(vessel, DOWN, circle, place);
                }
            }
        }

        private void chartChange(Vessel vessel, int change, int circle, int place) {
            int spot = circle * LONGEST_TIME + place;
            int price = vessel.steers() ? sky.price(vessel, circle, change) : NONE;
            targets[change][spot] = NONE;
            if (price != NONE) {
                int target = sky.next(circle, change);
                targets[change][spot] = target * LONGEST_TIME + sky.landing(circle, place, target);
                lengths[change][spot] = sky.crossing(circle);
                prices[change][spot] = price;
            }
        }

        private void gather(int set) {
            memberCount = 0;
            for (int i = 0; i < sky.shipCount && memberCount < MOST_MEMBERS; i++) {
                if ((set & 1 << i) != 0) {
                    members[memberCount] = i;
                    memberCount++;
                }
            }
            // with no members the search shall go on and never be at its end
            whole = memberCount == 0 ? 1 : (1 << memberCount) - 1;
        }

        private void visit(int step) {
            for (int i = 0; i < memberCount; i++) {
                memberSpots[i] = sky.spotBehind(sky.ships[members[i]], step);
            }
            int slot = slotOf(step);
            for (int met = 0; met < whole && met < SETS; met++) {
                for (int i = 0; i < spotCount; i++) {
                    int spot = spots[i];
                    int drops = ring[met][slot + spot];
                    if (drops != FAR) {
                        // this slot comes round again for a later STEP
                        ring[met][slot + spot] = FAR;
                        arrive(step, spot, met, drops);
                    }
                }
            }
        }

        private void arrive(int step, int spot, int met, int drops) {
            if (drops > limit) {
                return;
            }
            int now = met;
            for (int i = 0; i < memberCount; i++) {
                if (memberSpots[i] == spot) {
                    now |= 1 << i;
                }
            }
            if (now == whole) {
                finish(step, drops);
            } else {
                spread(step, spot, now, drops);
            }
        }

        private void finish(int step, int drops) {
            fewest = drops;
            limit = drops - 1;
            if (first == NONE) {
                first = step;
            }
        }

        private void spread(int step, int spot, int met, int drops) {
            for (int code = STAY; code < CODES; code++) {
                int target = targets[code][spot];
                int sum = drops + prices[code][spot];
                if (target != NONE && sum <= limit) {
                    int index = slotOf(step + lengths[code][spot]) + target;
                    ring[met][index] = Math.min(sum, ring[met][index]);
                }
            }
        }

        /** The i-th code of THE WAY; NONE: it has no such code, or there is no WAY. */
        int codeOfWay(Vessel vessel, int other, int i) {
            int goal = firstStep(vessel, 1 << other);
            if (i >= goal) {
                return NONE;
            }
            setToGo(vessel.busy, goal, sky.spotBehind(sky.ships[other], goal));
            int step = vessel.busy;
            int spot = sky.spotOf(vessel);
            for (int n = 0; n < goal && step <= i; n++) {
                int code = firstBestCode(step, spot, goal);
                int arrival = step + lengths[code][spot];
                if (i < arrival) {
                    return i == step ? code : STAY;
                }
                spot = targets[code][spot];
                step = arrival;
            }
            return STAY;
        }

        /** Goes backward, since only what lies ahead tells which of the first codes are good. */
        private void setToGo(int from, int goal, int goalSpot) {
            for (int spot = 0; spot < SPOTS; spot++) {
                toGo[goal * SPOTS + spot] = spot == goalSpot ? 0 : FAR;
            }
            for (int step = goal - 1; step >= from; step--) {
                for (int i = 0; i < spotCount; i++) {
                    int spot = spots[i];
                    int least = FAR;
                    for (int code = STAY; code < CODES; code++) {
                        least = Math.min(least, dropsBy(code, step, spot, goal));
                    }
                    toGo[step * SPOTS + spot] = least;
                }
            }
        }

        private int firstBestCode(int step, int spot, int goal) {
            int least = toGo[step * SPOTS + spot];
            for (int code = STAY; code < CODES; code++) {
                if (dropsBy(code, step, spot, goal) == least && targets[code][spot] != NONE) {
                    return code;
                }
            }
            return STAY;
        }

        private int dropsBy(int code, int step, int spot, int goal) {
            int target = targets[code][spot];
            int arrival = step + lengths[code][spot];
            if (target == NONE || arrival > goal) {
                return FAR;
            }
            return Math.min(FAR, prices[code][spot] + toGo[arrival * SPOTS + target]);
        }

        private static int slotOf(int step) {
            return step % SLOTS * SPOTS;
        }
    }

    /** The game of TAG: for each STEP of it a pair of vessels, made once, so that none is made in play. */
    private static final class Chase {
        private final World sky;
        private final Vessel[] chasers = new Vessel[MOST_MOVES + 1];
        private final Vessel[] runners = new Vessel[MOST_MOVES + 1];

        Chase(World sky) {
            this.sky = sky;
            for (int i = 0; i <= MOST_MOVES; i++) {
                chasers[i] = new Vessel();
                runners[i] = new Vessel();
            }
        }

        boolean isWon(int ship, int other, int last) {
            chasers[0].become(sky.ships[ship]);
            runners[0].become(sky.ships[other]);
            return catches(0, last);
        }

        private boolean catches(int depth, int last) {
            if (chasers[depth].isWith(runners[depth])) {
                return true;
            }
            if (depth >= last || depth >= MOST_MOVES) {
                return false;
            }
            for (int code = STAY; code <= DOWN; code++) {
                chasers[depth + 1].become(chasers[depth]);
                if (sky.fly(chasers[depth + 1], code) && catchesAll(depth, last)) {
                    return true;
                }
            }
            return false;
        }

        /** Whether the chaser's code is good against each answer of the one that runs. */
        private boolean catchesAll(int depth, int last) {
            for (int code = STAY; code <= DOWN; code++) {
                runners[depth + 1].become(runners[depth]);
                if (sky.fly(runners[depth + 1], code) && !catches(depth + 1, last)) {
                    return false;
                }
            }
            return true;
        }
    }
}
