/**
 * Doors, lids and gates of which one may be opened only by shutting others at that moment.
 * The document (DOC.md) numbers its promises; the public methods stand here in its order.
 */
public final class WhoOpensOne {
    public static final int NONE = -1;

    private static final int BAD = -2;
    private static final int OTHER = -3;
    private static final int NOTHING = -4;
    private static final int STUCK = -5;
    private static final int FULL = -6;
    private static final int REFUSAL_SORTS = 5;
    private static final int WORTH_REFUSED = -1000000;
    private static final int FAULT_AT = -20;

    private static final int ROOMS = 8;
    private static final int MOST_DOORS = 14;
    private static final int MOST_PEOPLE = 4;
    private static final int MOST_SEARCHED = 9;
    private static final int MOST_LAW = 4;
    private static final int MOST_WIND = 99;

    private static final int LID = 1;
    private static final int GATE = 2;
    private static final int BOLT = 3;
    private static final int CAT = 4;
    private static final int GREAT = 5;
    private static final int[] WEIGHTS = {1, 1, 2, 1, 0, 2};
    private static final int[] UNDER = {-1, 0, 0, 0, 0, 2};

    private static final int SHELVES = 8;
    private static final int MOST_ELEMENTS = 40;
    private static final int BYTES = 0;
    private static final int SHORTS = 1;
    private static final int INTS = 2;
    private static final int BOOLEANS = 4;
    private static final int DOOR_HELD = 10;

    private static final int TAPE_SIZE = 250;
    private static final int MOST_ACTS = 20;
    private static final int MOST_ERRANDS = 4;
    private static final int MOST_TURNS = 60;
    private static final int MOST_BOXES = 20;
    private static final int FOREVER = 99;

    private final House now = new House();
    private final House trial = new House();
    private final House kept = new House();
    private boolean somethingKept;
    private final Shelf[] shelves = new Shelf[SHELVES];
    private final Tape tape = new Tape();
    private final Search search = new Search();
    private final Lasting lasting = new Lasting();
    private final int[] refusals = new int[REFUSAL_SORTS];

    public WhoOpensOne() {
        for (int s = 0; s < SHELVES; s++) {
            shelves[s] = new Shelf();
        }
    }

    public int row(int s, int sort, int n) {
        if (!isShelf(s) || sort < BYTES || sort > BOOLEANS || n < 0 || n > MOST_ELEMENTS) {
            return refuse(BAD);
        }
        shelves[s].takeRow(sort, n);
        return 1;
    }

    public int set(int s, int i, long v) {
        if (!isShelf(s)) {
            return refuse(BAD);
        }
        int wrong = rowRefusal(shelves[s], 0);
        if (wrong != 0) {
            return refuse(wrong);
        }
        if (!shelves[s].hasElement(i)) {
            return refuse(BAD);
        }
        shelves[s].put(i, v);
        return 1;
    }

    public int copy(int p, int q, int i, int j, int n) {
        if (!isShelf(p) || !isShelf(q)) {
            return refuse(BAD);
        }
        Shelf from = shelves[p];
        Shelf to = shelves[q];
        if (from.holdsDoor() || to.holdsDoor()) {
            return refuse(OTHER);
        }
        if (from.isEmpty() || to.isEmpty()) {
            return refuse(NOTHING);
        }
        if (from.held != to.held) {
            return refuse(OTHER);
        }
        if (!from.hasStretch(i, n) || !to.hasStretch(j, n)) {
            return refuse(BAD);
        }
        System.arraycopy(from.cells, i, to.cells, j, n);
        return n;
    }

    public long element(int s, int i) {
        if (!isShelf(s) || !shelves[s].hasElement(i)) {
            return 0;
        }
        return shelves[s].cells[i];
    }

    public int holds(int s) {
        return isShelf(s) ? shelves[s].held : NONE;
    }

    public int show(int s, int door) {
        if (!isShelf(s) || (door != NONE && !now.hasDoor(door))) {
            return refuse(BAD);
        }
        if (door == NONE) {
            shelves[s].clear();
        } else {
            shelves[s].takeDoor(door);
        }
        return 1;
    }

    public int says(int s, int kind) {
        if (!isShelf(s) || !isKind(kind)) {
            return refuse(BAD);
        }
        Shelf shelf = shelves[s];
        if (shelf.isEmpty()) {
            return refuse(NOTHING);
        }
        if (!shelf.holdsDoor() || !now.hasDoor(shelf.heldDoor())) {
            return refuse(OTHER);
        }
        int door = shelf.heldDoor();
        if (!isUnder(now.kinds[door], kind)) {
            return refuse(OTHER);
        }
        return saying(door, kind);
    }

    public int door(int kind, int a, int b) {
        if (!isKind(kind) || !isRoom(a)) {
            return refuse(BAD);
        }
        if (kind != LID && (!isRoom(b) || a == b)) {
            return refuse(BAD);
        }
        if (now.doorCount >= MOST_DOORS) {
            return refuse(FULL);
        }
        return now.addDoor(kind, a, b);
    }

    public int one(int room) {
        if (!isRoom(room)) {
            return refuse(BAD);
        }
        if (now.people >= MOST_PEOPLE) {
            return refuse(FULL);
        }
        return now.addOne(room);
    }

    public int ask(int what, int v) {
        if (what == 0 && v >= 1 && v <= MOST_LAW) {
            int was = now.law;
            now.law = v;
            return was;
        }
        if (what == 1 && v >= 0 && v <= MOST_WIND) {
            int was = now.wind;
            now.wind = v;
            return was;
        }
        return refuse(BAD);
    }

    public int stand(int door, boolean open) {
        if (!now.hasDoor(door)) {
            return refuse(BAD);
        }
        if (now.isOpen(door) == open) {
            return 0;
        }
        now.openBits ^= 1 << door;
        return 1;
    }

    public int move(int one, int room) {
        if (!now.hasOne(one) || !isRoom(room)) {
            return refuse(BAD);
        }
        int was = now.rooms[one];
        now.rooms[one] = room;
        return was;
    }

    public int feed(int v, int n) {
        if (n < 1 || n > 4) {
            return refuse(BAD);
        }
        if (tape.size + n > TAPE_SIZE) {
            return refuse(FULL);
        }
        tape.append(v, n);
        return tape.size;
    }

    public int wipe() {
        int was = tape.size;
        tape.size = 0;
        return was;
    }

    public int house() {
        trial.become(now);
        int answer = tape.readInto(trial);
        tape.size = 0;
        if (answer < 0) {
            refuse(BAD);
            return answer;
        }
        now.become(trial);
        return answer;
    }

    public int doorOf(int door, int what) {
        if (!now.hasDoor(door)) {
            return refuse(BAD);
        }
        switch (what) {
            case 0:
                return now.kinds[door];
            case 1:
                return now.roomsA[door];
            case 2:
                return now.roomsB[door];
            case 3:
                return now.isOpen(door) ? 1 : 0;
            case 4:
                return now.weightOf(door);
            default:
                return refuse(BAD);
        }
    }

    public int where(int one) {
        return now.hasOne(one) ? now.rooms[one] : refuse(BAD);
    }

    public int doors(int what, int room) {
        if (what == 0) {
            return now.openBits;
        }
        if (what == 1 && isRoom(room)) {
            return now.doorsAt(room);
        }
        if (what == 2) {
            return now.shuttable();
        }
        return refuse(BAD);
    }

    public int may(int one, int door, int what) {
        if (!now.hasOne(one) || !now.hasDoor(door)) {
            return refuse(BAD);
        }
        switch (what) {
            case 0:
                return now.mayWalk(one, door) ? 1 : 0;
            case 1:
                return now.mayShut(one, door) ? 1 : 0;
            case 2:
                return now.leastSet(one, door) != NONE ? 1 : 0;
            default:
                return refuse(BAD);
        }
    }

    public int by(int one, int door, int set) {
        if (!now.hasOne(one) || !now.hasDoor(door) || !now.hasDoors(set)) {
            return refuse(BAD);
        }
        return now.opensBy(one, door, set) ? 1 : 0;
    }

    public int ways(int one, int door, int what) {
        if (!now.hasOne(one) || !now.hasDoor(door) || what < 0 || what > 1) {
            return refuse(BAD);
        }
        if (what == 0) {
            return now.countSets(one, door);
        }
        int least = now.leastSet(one, door);
        return least == NONE ? refuse(STUCK) : least;
    }

    public int walk(int one, int door) {
        if (!now.hasOne(one) || !now.hasDoor(door)) {
            return refuse(BAD);
        }
        if (!now.mayWalk(one, door)) {
            return refuse(STUCK);
        }
        now.goThrough(one, door);
        return now.rooms[one];
    }

    public int shut(int one, int door) {
        if (!now.hasOne(one) || !now.hasDoor(door)) {
            return refuse(BAD);
        }
        if (!now.mayShut(one, door)) {
            return refuse(STUCK);
        }
        now.openBits &= ~(1 << door);
        return now.openStock();
    }

    public int open(int one, int door, int set) {
        if (!now.hasOne(one) || !now.hasDoor(door) || !now.hasDoors(set)) {
            return refuse(BAD);
        }
        if (!now.opensBy(one, door, set)) {
            return refuse(STUCK);
        }
        now.openFor(door, set);
        return now.openStock();
    }

    public int reach(int one) {
        return now.hasOne(one) ? now.reachFrom(now.rooms[one]) : refuse(BAD);
    }

    public int shutIn() {
        return now.shutInBits();
    }

    public int coming(int one, int room) {
        if (!now.hasOne(one) || !isRoom(room)) {
            return refuse(BAD);
        }
        if (now.doorCount > MOST_SEARCHED) {
            return refuse(STUCK);
        }
        return fewestTo(one, room);
    }

    public int all(int one) {
        if (!now.hasOne(one)) {
            return refuse(BAD);
        }
        if (now.doorCount > MOST_SEARCHED) {
            return refuse(STUCK);
        }
        return search.roomsFor(now, one);
    }

    public int first(int one, int room) {
        if (!now.hasOne(one) || !isRoom(room)) {
            return refuse(BAD);
        }
        if (now.doorCount > MOST_SEARCHED) {
            return refuse(STUCK);
        }
        return fewestTo(one, room) > 0 ? search.leastFirst() : NONE;
    }

    public int errands(int one, int s, int n) {
        if (!now.hasOne(one) || !isShelf(s) || n < 0 || n > MOST_ERRANDS) {
            return refuse(BAD);
        }
        Shelf shelf = shelves[s];
        int wrong = rowRefusal(shelf, n);
        if (wrong != 0) {
            return refuse(wrong);
        }
        if (now.doorCount > MOST_SEARCHED) {
            return refuse(STUCK);
        }
        search.forgetGoals();
        for (int i = 0; i < n; i++) {
            long goal = shelf.cells[i];
            if (goal < 0 || goal >= ROOMS) {
                return NONE;
            }
            search.addGoal((int) goal);
        }
        return search.fewestFor(now, one);
    }

    public int lost() {
        if (now.doorCount > MOST_SEARCHED) {
            return refuse(STUCK);
        }
        int bits = 0;
        for (int p = 0; p < now.people; p++) {
            if (fewestTo(p, 0) == NONE) {
                bits |= 1 << p;
            }
        }
        return bits;
    }

    public int stock() {
        return now.openStock();
    }

    public int lasts() {
        return lasting.most(now, now.law, now.openBits, 0);
    }

    public int worth(int door) {
        if (!now.hasDoor(door)) {
            return WORTH_REFUSED + refuse(BAD);
        }
        if (!now.isOpen(door)) {
            return WORTH_REFUSED + refuse(STUCK);
        }
        int asItIs = lasting.most(now, now.law, now.openBits, 0);
        return asItIs - lasting.most(now, now.law, now.openBits & ~(1 << door), 0);
    }

    public int spare() {
        // LASTS as all is stands in every WORTH, so the least WORTH is where most lasts without it.
        int found = NONE;
        int mostWithout = NONE;
        for (int d = 0; d < now.doorCount; d++) {
            if (now.isOpen(d)) {
                int without = lasting.most(now, now.law, now.openBits & ~(1 << d), 0);
                if (without > mostWithout) {
                    mostWithout = without;
                    found = d;
                }
            }
        }
        return found == NONE ? refuse(STUCK) : found;
    }

    public int endless() {
        int bits = 0;
        for (int law = 1; law <= MOST_LAW; law++) {
            if (lasting.most(now, law, now.openBits, 0) == FOREVER) {
                bits |= 1 << law;
            }
        }
        return bits;
    }

    public int boxes(int n) {
        if (n < 1 || n >= FOREVER) {
            return refuse(BAD);
        }
        for (int more = 0; more <= MOST_BOXES; more++) {
            if (lasting.most(now, now.law, now.openBits, more) >= n) {
                return more;
            }
        }
        return NONE;
    }

    public int judge(int s, int n) {
        if (!isShelf(s) || n < 0 || n > MOST_ACTS) {
            return refuse(BAD);
        }
        int wrong = rowRefusal(shelves[s], n);
        if (wrong != 0) {
            return refuse(wrong);
        }
        return playActs(shelves[s], n);
    }

    public int told(int s, int n, int what) {
        boolean asksOne = what >= 10 && what < 10 + now.people;
        if (!isShelf(s) || n < 0 || n > MOST_ACTS || (!asksOne && (what < 0 || what > 2))) {
            return refuse(BAD);
        }
        int wrong = rowRefusal(shelves[s], n);
        if (wrong != 0) {
            return refuse(wrong);
        }
        if (playActs(shelves[s], n) != NONE) {
            return refuse(STUCK);
        }
        switch (what) {
            case 0:
                return trial.openBits;
            case 1:
                return trial.openings - now.openings;
            case 2:
                return trial.shutInBits();
            default:
                return asksOne ? trial.rooms[what - 10] : NONE;
        }
    }

    public int evening(int n) {
        if (n < 1 || n > MOST_TURNS) {
            return refuse(BAD);
        }
        if (now.doorCount == 0 || now.people == 0) {
            return refuse(STUCK);
        }
        int before = now.openings;
        for (int i = 0; i < n; i++) {
            now.takeTurn();
        }
        return now.openings - before;
    }

    public int night() {
        return now.blow();
    }

    public int seed(int v) {
        int was = now.seed;
        now.seed = v;
        return was;
    }

    public int image() {
        kept.become(now);
        somethingKept = true;
        return 1;
    }

    public int back() {
        if (!somethingKept) {
            return refuse(STUCK);
        }
        now.become(kept);
        for (int s = 0; s < SHELVES; s++) {
            if (shelves[s].holdsDoor() && !now.hasDoor(shelves[s].heldDoor())) {
                shelves[s].clear();
            }
        }
        return 1;
    }

    public int status(int what) {
        switch (what) {
            case 0:
                return now.doorCount;
            case 1:
                return Integer.bitCount(now.openBits);
            case 2:
                return now.people;
            case 3:
                return now.law;
            case 4:
                return now.wind;
            case 5:
                return now.openings;
            case 6:
                return tape.size;
            case 7:
                return now.seed;
            case 8:
                return fullShelves();
            default:
                return what >= 12 && what < 12 + REFUSAL_SORTS ? refusals[what - 12] : NONE;
        }
    }

    private static boolean isShelf(int s) {
        return s >= 0 && s < SHELVES;
    }

    private static boolean isRoom(int room) {
        return room >= 0 && room < ROOMS;
    }

    private static boolean isKind(int kind) {
        return kind >= 0 && kind < WEIGHTS.length;
    }

    private static boolean isUnder(int kind, int wanted) {
        int above = kind;
        for (int step = 0; step < UNDER.length && isKind(above); step++) {
            if (above == wanted) {
                return true;
            }
            above = UNDER[above];
        }
        return false;
    }

    private int refuse(int number) {
        int place = BAD - number;
        if (place >= 0 && place < REFUSAL_SORTS) {
            refusals[place]++;
        }
        return number;
    }

    /** Why a shelf has no ROW of so many elements; 0 if it has. */
    private static int rowRefusal(Shelf shelf, int elements) {
        if (shelf.holdsDoor()) {
            return OTHER;
        }
        if (shelf.isEmpty()) {
            return NOTHING;
        }
        return elements > shelf.size ? BAD : 0;
    }

    private int saying(int door, int kind) {
        switch (kind) {
            case LID:
                return now.roomsA[door];
            case GATE:
            case GREAT:
                return now.shuttable() >> door & 1;
            case BOLT:
                return now.someoneIn(now.roomsA[door]) ? 1 : 0;
            case CAT:
                return now.someoneIn(now.roomsB[door]) ? 1 : 0;
            default:
                return now.weightOf(door);
        }
    }

    private int fewestTo(int one, int room) {
        search.forgetGoals();
        search.addGoal(room);
        return search.fewestFor(now, one);
    }

    /** Plays told acts on the trial house; answers where they are WRONG, or NONE. */
    private int playActs(Shelf shelf, int n) {
        trial.become(now);
        for (int i = 0; i < n && i < shelf.size; i++) {
            if (!trial.playAct(shelf.cells[i])) {
                return i;
            }
        }
        return NONE;
    }

    private int fullShelves() {
        int full = 0;
        for (int s = 0; s < SHELVES; s++) {
            if (!shelves[s].isEmpty()) {
                full++;
            }
        }
        return full;
    }

    /** A place for a ROW or for the number of a DOOR; its cells are made once and used again. */
    private static final class Shelf {
        private int held = NONE;
        private int size;
        private final long[] cells = new long[MOST_ELEMENTS];

        boolean isEmpty() {
            return held == NONE;
        }

        boolean holdsDoor() {
            return held >= DOOR_HELD;
        }

        int heldDoor() {
            return held - DOOR_HELD;
        }

        void clear() {
            held = NONE;
            size = 0;
        }

        void takeDoor(int door) {
            held = DOOR_HELD + door;
            size = 0;
        }

        void takeRow(int sort, int n) {
            held = sort;
            size = n;
            for (int i = 0; i < MOST_ELEMENTS; i++) {
                cells[i] = 0;
            }
        }

        boolean hasElement(int i) {
            return i >= 0 && i < size;
        }

        boolean hasStretch(int from, int n) {
            return from >= 0 && n >= 0 && n <= size && from <= size - n;
        }

        void put(int i, long v) {
            cells[i] = narrow(v);
        }

        private long narrow(long v) {
            switch (held) {
                case BYTES:
                    return (byte) v;
                case SHORTS:
                    return (short) v;
                case INTS:
                    return (int) v;
                case BOOLEANS:
                    return v != 0 ? 1 : 0;
                default:
                    return v;
            }
        }
    }

    /** All that image() keeps: DOORS, PEOPLE, THE LAW, WIND, SEED and how many OPENINGS there were. */
    private static final class House {
        private final int[] kinds = new int[MOST_DOORS];
        private final int[] roomsA = new int[MOST_DOORS];
        private final int[] roomsB = new int[MOST_DOORS];
        private final int[] rooms = new int[MOST_PEOPLE];
        private int doorCount;
        private int openBits;
        private int people;
        private int law = 2;
        private int wind;
        private int seed = 1;
        private int openings;

        void become(House other) {
            for (int d = 0; d < other.doorCount; d++) {
                kinds[d] = other.kinds[d];
                roomsA[d] = other.roomsA[d];
                roomsB[d] = other.roomsB[d];
            }
            for (int p = 0; p < other.people; p++) {
                rooms[p] = other.rooms[p];
            }
            doorCount = other.doorCount;
            openBits = other.openBits;
            people = other.people;
            law = other.law;
            wind = other.wind;
            seed = other.seed;
            openings = other.openings;
        }

        boolean hasDoor(int door) {
            return door >= 0 && door < doorCount;
        }

        boolean hasDoors(int set) {
            return set >> doorCount == 0;
        }

        boolean hasOne(int one) {
            return one >= 0 && one < people;
        }

        int addDoor(int kind, int a, int b) {
            kinds[doorCount] = kind;
            roomsA[doorCount] = a;
            roomsB[doorCount] = kind == LID ? a : b;
            doorCount++;
            return doorCount - 1;
        }

        int addOne(int room) {
            rooms[people] = room;
            people++;
            return people - 1;
        }

        boolean isOpen(int door) {
            return (openBits >> door & 1) != 0;
        }

        int weightOf(int door) {
            return WEIGHTS[kinds[door]];
        }

        boolean isAt(int door, int room) {
            return roomsA[door] == room || roomsB[door] == room;
        }

        int doorsAt(int room) {
            int bits = 0;
            for (int d = 0; d < doorCount; d++) {
                if (isAt(d, room)) {
                    bits |= 1 << d;
                }
            }
            return bits;
        }

        boolean someoneIn(int room) {
            for (int p = 0; p < people; p++) {
                if (rooms[p] == room) {
                    return true;
                }
            }
            return false;
        }

        boolean shutsFrom(int door, int room) {
            if (kinds[door] == CAT) {
                return roomsB[door] == room;
            }
            return kinds[door] != GREAT && isAt(door, room);
        }

        boolean opensFrom(int door, int room) {
            return kinds[door] == BOLT ? roomsA[door] == room : isAt(door, room);
        }

        boolean mayShut(int one, int door) {
            return isOpen(door) && shutsFrom(door, rooms[one]);
        }

        boolean mayWalk(int one, int door) {
            return isOpen(door) && kinds[door] != LID && isAt(door, rooms[one]);
        }

        boolean standsBeforeShut(int one, int door) {
            return !isOpen(door) && opensFrom(door, rooms[one]);
        }

        int shuttable() {
            int bits = 0;
            for (int p = 0; p < people; p++) {
                for (int d = 0; d < doorCount; d++) {
                    if (isOpen(d) && shutsFrom(d, rooms[p])) {
                        bits |= 1 << d;
                    }
                }
            }
            return bits;
        }

        int weigh(int set) {
            int total = 0;
            for (int d = 0; d < doorCount; d++) {
                if ((set >> d & 1) != 0) {
                    total += weightOf(d);
                }
            }
            return total;
        }

        boolean isEnoughAndNoneInVain(int set) {
            int total = weigh(set);
            if (total < law) {
                return false;
            }
            for (int d = 0; d < doorCount; d++) {
                if ((set >> d & 1) != 0 && total - weightOf(d) >= law) {
                    return false;
                }
            }
            return true;
        }

        boolean opensBy(int one, int door, int set) {
            return standsBeforeShut(one, door) && (set & ~shuttable()) == 0 && isEnoughAndNoneInVain(set);
        }

        /** The least set as bits, or NONE. */
        int leastSet(int one, int door) {
            if (!standsBeforeShut(one, door)) {
                return NONE;
            }
            int set = shuttable();
            int total = weigh(set);
            if (total < law) {
                return NONE;
            }
            // The least number that weighs enough has nothing in vain: without any one of it, it would be less.
            for (int d = doorCount - 1; d >= 0; d--) {
                if ((set >> d & 1) != 0 && total - weightOf(d) >= law) {
                    set &= ~(1 << d);
                    total -= weightOf(d);
                }
            }
            return set;
        }

        int countSets(int one, int door) {
            if (!standsBeforeShut(one, door)) {
                return 0;
            }
            int set = shuttable();
            int singles = 0;
            int doubles = 0;
            for (int d = 0; d < doorCount; d++) {
                if ((set >> d & 1) != 0) {
                    singles += weightOf(d) == 1 ? 1 : 0;
                    doubles += weightOf(d) == 2 ? 1 : 0;
                }
            }
            int count = 0;
            for (int two = 0; 2 * two <= law + 1; two++) {
                count += choose(singles, singlesBeside(law, two)) * choose(doubles, two);
            }
            return count;
        }

        void goThrough(int one, int door) {
            rooms[one] = rooms[one] == roomsA[door] ? roomsB[door] : roomsA[door];
        }

        void openFor(int door, int set) {
            openBits = openBits & ~set | 1 << door;
            openings++;
        }

        int openStock() {
            int total = 0;
            for (int d = 0; d < doorCount; d++) {
                if (isOpen(d) && kinds[d] != GREAT) {
                    total += weightOf(d);
                }
            }
            return total;
        }

        int reachFrom(int room) {
            int reached = 1 << room;
            for (int round = 0; round < ROOMS; round++) {
                int before = reached;
                for (int d = 0; d < doorCount; d++) {
                    int sides = 1 << roomsA[d] | 1 << roomsB[d];
                    if (isOpen(d) && (reached & sides) != 0) {
                        reached |= sides;
                    }
                }
                if (reached == before) {
                    return reached;
                }
            }
            return reached;
        }

        int shutInBits() {
            int bits = 0;
            for (int p = 0; p < people; p++) {
                if ((reachFrom(rooms[p]) & 1) == 0) {
                    bits |= 1 << p;
                }
            }
            return bits;
        }

        /** Does one told act; answers false, and does nothing, if it may not be. */
        boolean playAct(long act) {
            int what = (int) (act >> 22 & 3);
            if (what == 3) {
                return true;
            }
            int one = (int) (act >> 20 & 3);
            int door = (int) (act >> 16 & 15);
            int set = (int) (act & 65535);
            if (!hasOne(one) || !hasDoor(door)) {
                return false;
            }
            if (what == 0 && mayWalk(one, door)) {
                goThrough(one, door);
                return true;
            }
            if (what == 1 && hasDoors(set) && opensBy(one, door, set)) {
                openFor(door, set);
                return true;
            }
            if (what == 2 && mayShut(one, door)) {
                openBits &= ~(1 << door);
                return true;
            }
            return false;
        }

        int draw(int below) {
            seed = seed * 1103515245 + 12345;
            return below > 0 ? (seed >>> 16) % below : 0;
        }

        void takeTurn() {
            int one = draw(people);
            int door = draw(doorCount);
            if (!hasOne(one) || !hasDoor(door)) {
                return;
            }
            int set = leastSet(one, door);
            if (set != NONE) {
                openFor(door, set);
            } else if (mayWalk(one, door)) {
                goThrough(one, door);
            }
        }

        int blow() {
            int opened = 0;
            for (int d = 0; d < doorCount; d++) {
                if (!isOpen(d) && draw(100) < wind) {
                    openBits |= 1 << d;
                    opened++;
                }
            }
            return opened;
        }

        private static int choose(int n, int k) {
            int count = 1;
            for (int i = 0; i < k; i++) {
                count = count * (n - i) / (i + 1);
            }
            return count;
        }
    }

    /**
     * How many of WEIGHT 1 stand beside so many of WEIGHT 2 in a set with none in vain.
     * There is such a set if those of WEIGHT 2 alone weigh at most 1 more than the law.
     */
    private static int singlesBeside(int law, int two) {
        return Math.max(0, law - 2 * two);
    }

    /** THE TAPE, and the reading of a HOUSE from it. */
    private static final class Tape {
        private static final int END = 0;
        private static final int WORD = 1;
        private static final int NUMBER = 2;
        private static final int SIGN = 3;
        private static final int STRANGE = 4;

        private final int[] bytes = new int[TAPE_SIZE];
        private int size;
        private int token;
        private int start;
        private int end;

        void append(int v, int n) {
            for (int i = n - 1; i >= 0 && size < TAPE_SIZE; i--) {
                bytes[size] = v >>> 8 * i & 255;
                size++;
            }
        }

        /** How many STATEMENTS came to the house; or FAULT_AT less the place where it goes wrong. */
        int readInto(House house) {
            end = 0;
            nextToken();
            for (int count = 1; count <= TAPE_SIZE; count++) {
                if (!readStatement(house)) {
                    return FAULT_AT - start;
                }
                if (token == END) {
                    return count;
                }
                if (token != SIGN) {
                    return FAULT_AT - start;
                }
                nextToken();
            }
            return FAULT_AT - start;
        }

        private void nextToken() {
            start = end;
            while (start < size && bytes[start] == 32) {
                start++;
            }
            token = sortAt(start);
            end = token == END ? start : start + 1;
            if (token == WORD || token == NUMBER) {
                while (end < size && sortAt(end) == token) {
                    end++;
                }
            }
        }

        private int sortAt(int place) {
            if (place >= size) {
                return END;
            }
            int sign = bytes[place];
            if (sign >= 'a' && sign <= 'z') {
                return WORD;
            }
            if (sign >= '0' && sign <= '9') {
                return NUMBER;
            }
            return sign == ';' ? SIGN : STRANGE;
        }

        private boolean isWord(String word) {
            if (token != WORD || end - start != word.length()) {
                return false;
            }
            for (int i = 0; i < word.length(); i++) {
                if (bytes[start + i] != word.charAt(i)) {
                    return false;
                }
            }
            return true;
        }

        /** Where a statement can't go on, the token stays: its start is the FAULT. */
        private boolean readStatement(House house) {
            if (isWord("door")) {
                return house.doorCount < MOST_DOORS && readDoor(house);
            }
            if (isWord("one")) {
                return house.people < MOST_PEOPLE && readOne(house);
            }
            if (isWord("law")) {
                return readLaw(house);
            }
            if (isWord("wind")) {
                return readWind(house);
            }
            return isWord("moves") && readMoves(house);
        }

        private boolean readDoor(House house) {
            nextToken();
            int kind = readNumber(0, WEIGHTS.length - 1, NONE);
            if (kind == NONE) {
                return false;
            }
            int a = readNumber(0, ROOMS - 1, NONE);
            if (a == NONE) {
                return false;
            }
            int b = readNumber(0, ROOMS - 1, kind == LID ? NONE : a);
            if (b == NONE) {
                return false;
            }
            int door = house.addDoor(kind, a, b);
            if (isWord("open")) {
                house.openBits |= 1 << door;
                nextToken();
            }
            return true;
        }

        private boolean readOne(House house) {
            nextToken();
            int room = readNumber(0, ROOMS - 1, NONE);
            if (room == NONE) {
                return false;
            }
            house.addOne(room);
            return true;
        }

        private boolean readLaw(House house) {
            nextToken();
            int law = readNumber(1, MOST_LAW, NONE);
            if (law == NONE) {
                return false;
            }
            house.law = law;
            return true;
        }

        private boolean readWind(House house) {
            nextToken();
            int wind = readNumber(0, MOST_WIND, NONE);
            if (wind == NONE) {
                return false;
            }
            house.wind = wind;
            return true;
        }

        private boolean readMoves(House house) {
            nextToken();
            int one = readNumber(0, house.people - 1, NONE);
            if (one == NONE) {
                return false;
            }
            int room = readNumber(0, ROOMS - 1, NONE);
            if (room == NONE) {
                return false;
            }
            house.rooms[one] = room;
            return true;
        }

        /** The NUMBER here, the token behind it being the next; or NONE, if it may not stand here. */
        private int readNumber(int least, int most, int never) {
            if (token != NUMBER || end - start > 2) {
                return NONE;
            }
            int number = 0;
            for (int i = start; i < end; i++) {
                number = number * 10 + bytes[i] - '0';
            }
            if (number < least || number > most || number == never) {
                return NONE;
            }
            nextToken();
            return number;
        }
    }

    /** The house as it is for one who alone acts, others staying: what doors join, and what can be shut from where. */
    private static final class Plan {
        /** Of nine doors of WEIGHT 1 four can be chosen in 126 ways; no other law or mixture gives more sets. */
        private static final int MOST_SETS = 126;

        private final int[] joins = new int[MOST_SEARCHED];
        private final int[] shutFrom = new int[ROOMS];
        private final int[] openFrom = new int[ROOMS];
        private final int[] sets = new int[MOST_SETS];
        private int[] parts = new int[0];
        private int setCount;
        private int doors;
        private int law;
        private int singles;
        private int doubles;
        private int shutByOthers;
        private int stamp;

        void lay(House house, int one) {
            doors = Math.min(house.doorCount, MOST_SEARCHED);
            law = house.law;
            stamp++;
            if (parts.length < ROOMS << doors) {
                parts = new int[ROOMS << doors];
            }
            sortDoors(house);
            for (int room = 0; room < ROOMS; room++) {
                lookFrom(house, room);
            }
            shutByOthers = 0;
            for (int p = 0; p < house.people; p++) {
                if (p != one) {
                    shutByOthers |= shutFrom[house.rooms[p]];
                }
            }
            listSets();
        }

        private void sortDoors(House house) {
            singles = 0;
            doubles = 0;
            for (int d = 0; d < doors; d++) {
                joins[d] = 1 << house.roomsA[d] | 1 << house.roomsB[d];
                if (house.kinds[d] == GATE) {
                    doubles |= 1 << d;
                } else if (house.weightOf(d) == 1) {
                    singles |= 1 << d;
                }
            }
        }

        private void lookFrom(House house, int room) {
            int shuts = 0;
            int opens = 0;
            for (int d = 0; d < doors; d++) {
                if (house.shutsFrom(d, room)) {
                    shuts |= 1 << d;
                }
                if (house.opensFrom(d, room)) {
                    opens |= 1 << d;
                }
            }
            shutFrom[room] = shuts & (singles | doubles);
            openFrom[room] = opens;
        }

        private void listSets() {
            setCount = 0;
            int useful = singles | doubles;
            for (int set = useful; set > 0; set = set - 1 & useful) {
                int total = weigh(set);
                int lightest = (set & singles) != 0 ? 1 : 2;
                if (total >= law && total - lightest < law && setCount < MOST_SETS) {
                    sets[setCount] = set;
                    setCount++;
                }
            }
        }

        int weigh(int set) {
            return Integer.bitCount(set & singles) + 2 * Integer.bitCount(set & doubles);
        }

        /** The ROOMS that walking joins with this one, such DOORS being OPEN; each found once for a plan. */
        int partOf(int openBits, int room) {
            int place = openBits * ROOMS + room;
            if (place < 0 || place >= parts.length) {
                return 0;
            }
            if (parts[place] >> ROOMS == stamp) {
                return parts[place] & 255;
            }
            int part = 1 << room;
            int before = 0;
            for (int round = 0; round < ROOMS && part != before; round++) {
                before = part;
                for (int d = 0; d < doors; d++) {
                    if ((openBits >> d & 1) != 0 && (part & joins[d]) != 0) {
                        part |= joins[d];
                    }
                }
            }
            for (int r = 0; r < ROOMS; r++) {
                if ((part >> r & 1) != 0) {
                    parts[openBits * ROOMS + r] = stamp << ROOMS | part;
                }
            }
            return part;
        }
    }

    /**
     * Fewest OPENINGS, breadth first. Walking costs nothing and leads back as well, so a state is
     * which DOORS are OPEN, the part of the house one is in, and how many goals lie behind.
     */
    private static final class Search {
        private static final int STATE_BITS = 14;
        private static final int STATE_MASK = (1 << STATE_BITS) - 1;
        private static final int NOWHERE = ROOMS;

        private final int[] goals = new int[MOST_ERRANDS];
        private int goalCount;
        private final Plan plan = new Plan();
        private int[] seen = new int[0];
        private int[] queue = new int[0];
        private int base = 1;
        private int tail;
        private int levelEnd;
        private boolean found;
        private int foundFirsts;
        private int roomsSeen;

        void forgetGoals() {
            goalCount = 0;
        }

        void addGoal(int room) {
            if (goalCount < MOST_ERRANDS) {
                goals[goalCount] = room;
                goalCount++;
            }
        }

        int fewestFor(House house, int one) {
            plan.lay(house, one);
            begin();
            int room = house.rooms[one];
            int bounds = plan.partOf((1 << plan.doors) - 1, room);
            for (int i = 0; i < goalCount; i++) {
                if ((bounds >> goals[i] & 1) == 0) {
                    return NONE;
                }
            }
            return spread(house.openBits, room, 0);
        }

        int roomsFor(House house, int one) {
            forgetGoals();
            addGoal(NOWHERE);
            plan.lay(house, one);
            begin();
            int room = house.rooms[one];
            spread(house.openBits, room, plan.partOf((1 << plan.doors) - 1, room));
            return roomsSeen;
        }

        /** The least DOOR with which a row of fewest OPENINGS, found just now, can begin. */
        int leastFirst() {
            return foundFirsts == 0 ? NONE : Integer.numberOfTrailingZeros(foundFirsts);
        }

        private void begin() {
            int states = Math.max(1, goalCount) * (ROOMS << plan.doors);
            if (seen.length < states) {
                seen = new int[states];
                queue = new int[states];
                base = 1;
            }
            tail = 0;
            levelEnd = 0;
            found = false;
            foundFirsts = 0;
            roomsSeen = 0;
        }

        private int spread(int openBits, int room, int enoughRooms) {
            arrive(openBits, room, 0, 0);
            int head = 0;
            int openings = 0;
            while (!found && head < tail && roomsSeen != enoughRooms && openings < queue.length) {
                levelEnd = tail;
                for (; head < levelEnd; head++) {
                    for (int r = 0; r < ROOMS; r++) {
                        leaveFrom(r, queue[head] & STATE_MASK, queue[head] >> STATE_BITS);
                    }
                }
                openings++;
            }
            base += tail;
            return found ? openings : NONE;
        }

        private void leaveFrom(int room, int state, int firsts) {
            int openBits = state >> 3 & (1 << plan.doors) - 1;
            int passed = state >> 3 + plan.doors;
            int shutDoors = plan.openFrom[room] & ~openBits;
            int shuttable = openBits & (plan.shutFrom[room] | plan.shutByOthers);
            if (shutDoors == 0 || plan.weigh(shuttable) < plan.law) {
                return;
            }
            if ((plan.partOf(openBits, state & 7) >> room & 1) == 0) {
                return;
            }
            for (int i = 0; i < plan.setCount; i++) {
                int set = plan.sets[i];
                for (int d = 0; d < plan.doors && (set & ~shuttable) == 0; d++) {
                    if ((shutDoors >> d & 1) != 0) {
                        arrive(openBits & ~set | 1 << d, room, passed, firsts == 0 ? 1 << d : firsts);
                    }
                }
            }
        }

        private void arrive(int openBits, int room, int passed, int firsts) {
            int part = plan.partOf(openBits, room);
            roomsSeen |= part;
            int done = passed;
            while (done < goalCount && (part >> goals[done] & 1) != 0) {
                done++;
            }
            if (done == goalCount) {
                found = true;
                foundFirsts |= firsts;
                return;
            }
            int state = ((done << plan.doors) + openBits) * ROOMS + Integer.numberOfTrailingZeros(part);
            if (state < 0 || state >= seen.length) {
                return;
            }
            int place = seen[state] - base;
            if (place < 0 && tail < queue.length) {
                seen[state] = base + tail;
                queue[tail] = firsts << STATE_BITS | state;
                tail++;
            } else if (place >= levelEnd && place < tail) {
                queue[place] |= firsts << STATE_BITS;
            }
        }
    }

    /**
     * LASTS, by counts alone: which DOORS of one WEIGHT are OPEN makes no difference.
     * Idle ones are those that give nothing back once they are OPEN: GREAT ones and CATS.
     */
    private static final class Lasting {
        /** 21 * 8 * 8: twenty boxes, seven gates, seven idle ones; no other 14 DOORS ask for more. */
        private static final int MOST_STATES = 1344;

        private final int[] best = new int[MOST_STATES];
        private int law;
        private int singles;
        private int doubles;
        private int idle;
        private int openSingles;
        private int openDoubles;

        int most(House house, int theLaw, int openBits, int boxesMore) {
            law = theLaw;
            countDoors(house, openBits, boxesMore);
            if (changesForever(openSingles, openDoubles)) {
                return FOREVER;
            }
            // Where nothing changes places forever, each OPENING lowers the stock, or how many singles are OPEN.
            int stock = openSingles + 2 * openDoubles;
            for (int s = 0; s <= stock; s++) {
                for (int one = s & 1; one <= s && one <= singles; one += 2) {
                    int two = (s - one) / 2;
                    for (int rest = 0; rest <= idle && two <= doubles; rest++) {
                        note(one, two, rest);
                    }
                }
            }
            return noted(openSingles, openDoubles, idle);
        }

        private void countDoors(House house, int openBits, int boxesMore) {
            singles = boxesMore;
            openSingles = boxesMore;
            doubles = 0;
            openDoubles = 0;
            idle = 0;
            for (int d = 0; d < house.doorCount; d++) {
                int isOpen = openBits >> d & 1;
                if (house.kinds[d] == GREAT || house.kinds[d] == CAT) {
                    idle += 1 - isOpen;
                } else if (house.kinds[d] == GATE) {
                    doubles++;
                    openDoubles += isOpen;
                } else {
                    singles++;
                    openSingles += isOpen;
                }
            }
        }

        /** An OPEN one and a shut one, each alone as heavy as the law, open each other without end. */
        private boolean changesForever(int one, int two) {
            if (law == 1) {
                return one + two > 0 && one + two < singles + doubles;
            }
            return law == 2 && two > 0 && two < doubles;
        }

        private void note(int one, int two, int rest) {
            int place = placeOf(one, two, rest);
            if (place >= 0 && place < MOST_STATES) {
                best[place] = changesForever(one, two) ? FOREVER : mostFrom(one, two, rest);
            }
        }

        private int mostFrom(int one, int two, int rest) {
            int most = 0;
            for (int shutTwo = 0; 2 * shutTwo <= law + 1 && shutTwo <= two; shutTwo++) {
                int leftOne = one - singlesBeside(law, shutTwo);
                int leftTwo = two - shutTwo;
                if (leftOne >= 0) {
                    if (one < singles) {
                        most = Math.max(most, 1 + noted(leftOne + 1, leftTwo, rest));
                    }
                    if (two < doubles) {
                        most = Math.max(most, 1 + noted(leftOne, leftTwo + 1, rest));
                    }
                    if (rest > 0) {
                        most = Math.max(most, 1 + noted(leftOne, leftTwo, rest - 1));
                    }
                }
            }
            return Math.min(most, FOREVER);
        }

        private int noted(int one, int two, int rest) {
            int place = placeOf(one, two, rest);
            return place >= 0 && place < MOST_STATES ? best[place] : 0;
        }

        private int placeOf(int one, int two, int rest) {
            return (two * (singles + 1) + one) * (idle + 1) + rest;
        }
    }
}
