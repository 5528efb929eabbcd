import java.util.ArrayDeque;
import java.util.ArrayList;
import java.util.Arrays;
import java.util.HashMap;
import java.util.HashSet;
import java.util.List;
import java.util.Map;
import java.util.Set;

/**
 * The document once more, as plainly and slowly as can be: every set is tried, every row of acts is walked.
 * It shares nothing with the program, so that a slip in one shows against the other.
 */
public final class Oracle {
    static final int NONE = -1;

    static final class Door {
        int kind;
        int a;
        int b;
        boolean open;

        Door(int kind, int a, int b, boolean open) {
            this.kind = kind;
            this.a = a;
            this.b = b;
            this.open = open;
        }

        int weight() {
            if (kind == 2 || kind == 5) {
                return 2;
            }
            return kind == 4 ? 0 : 1;
        }

        boolean at(int room) {
            return room == a || (kind != 1 && room == b);
        }

        boolean shutFrom(int room) {
            if (kind == 5) {
                return false;
            }
            return kind == 4 ? room == b : at(room);
        }

        boolean openFrom(int room) {
            return kind == 3 ? room == a : at(room);
        }
    }

    static final class State {
        List<Door> doors = new ArrayList<>();
        List<Integer> people = new ArrayList<>();
        int law = 2;
        int wind = 0;
        int seed = 1;
        int openings = 0;

        State twin() {
            State t = new State();
            for (Door d : doors) {
                t.doors.add(new Door(d.kind, d.a, d.b, d.open));
            }
            t.people.addAll(people);
            t.law = law;
            t.wind = wind;
            t.seed = seed;
            t.openings = openings;
            return t;
        }

        boolean somebodyShuts(int d) {
            for (int room : people) {
                if (doors.get(d).open && doors.get(d).shutFrom(room)) {
                    return true;
                }
            }
            return false;
        }

        boolean walks(int p, int d) {
            Door door = doors.get(d);
            return door.open && door.kind != 1 && door.at(people.get(p));
        }

        boolean shuts(int p, int d) {
            return doors.get(d).open && doors.get(d).shutFrom(people.get(p));
        }

        boolean opens(int p, int d, int set) {
            if (doors.get(d).open || !doors.get(d).openFrom(people.get(p)) || (set >> d & 1) != 0) {
                return false;
            }
            int total = 0;
            for (int i = 0; i < 16; i++) {
                if ((set >> i & 1) != 0) {
                    if (i >= doors.size() || !somebodyShuts(i)) {
                        return false;
                    }
                    total += doors.get(i).weight();
                }
            }
            if (total < law) {
                return false;
            }
            for (int i = 0; i < doors.size(); i++) {
                if ((set >> i & 1) != 0 && total - doors.get(i).weight() >= law) {
                    return false;
                }
            }
            return true;
        }

        List<Integer> sets(int p, int d) {
            List<Integer> found = new ArrayList<>();
            int usable = 0;
            for (int i = 0; i < doors.size(); i++) {
                if (somebodyShuts(i)) {
                    usable |= 1 << i;
                }
            }
            for (int set = 0; set < 1 << doors.size(); set++) {
                if ((set & ~usable) == 0 && Integer.bitCount(set) <= 4 && opens(p, d, set)) {
                    found.add(set);
                }
            }
            return found;
        }

        void walk(int p, int d) {
            Door door = doors.get(d);
            people.set(p, people.get(p) == door.a ? door.b : door.a);
        }

        void open(int d, int set) {
            for (int i = 0; i < doors.size(); i++) {
                if ((set >> i & 1) != 0) {
                    doors.get(i).open = false;
                }
            }
            doors.get(d).open = true;
        }

        int openBits() {
            int bits = 0;
            for (int i = 0; i < doors.size(); i++) {
                if (doors.get(i).open) {
                    bits |= 1 << i;
                }
            }
            return bits;
        }

        void setOpenBits(int bits) {
            for (int i = 0; i < doors.size(); i++) {
                doors.get(i).open = (bits >> i & 1) != 0;
            }
        }

        int stock() {
            int sum = 0;
            for (Door d : doors) {
                if (d.open && d.kind != 5) {
                    sum += d.weight();
                }
            }
            return sum;
        }

        int reach(int p) {
            Set<Integer> rooms = new HashSet<>();
            ArrayDeque<Integer> todo = new ArrayDeque<>();
            todo.add(people.get(p));
            rooms.add(people.get(p));
            while (!todo.isEmpty()) {
                int room = todo.poll();
                for (Door d : doors) {
                    if (d.open && d.kind != 1 && d.at(room)) {
                        int next = d.a == room ? d.b : d.a;
                        if (rooms.add(next)) {
                            todo.add(next);
                        }
                    }
                }
            }
            int bits = 0;
            for (int room : rooms) {
                bits |= 1 << room;
            }
            return bits;
        }

        int shutIn() {
            int bits = 0;
            for (int p = 0; p < people.size(); p++) {
                if ((reach(p) & 1) == 0) {
                    bits |= 1 << p;
                }
            }
            return bits;
        }

        int draw(int n) {
            seed = seed * 1103515245 + 12345;
            return ((seed >> 16) & 0xFFFF) % n;
        }
    }

    State now = new State();
    State kept = null;
    Object[] shelves = new Object[8];
    List<Integer> tape = new ArrayList<>();
    int[] refused = new int[7];

    static final class Row {
        int sort;
        long[] cells;
    }

    int no(int number) {
        refused[-number]++;
        return number;
    }

    static boolean shelf(int s) {
        return 0 <= s && s <= 7;
    }

    static boolean room(int r) {
        return 0 <= r && r <= 7;
    }

    boolean isDoor(int d) {
        return 0 <= d && d < now.doors.size();
    }

    boolean isOne(int p) {
        return 0 <= p && p < now.people.size();
    }

    public int row(int s, int sort, int n) {
        if (!shelf(s) || sort < 0 || sort > 4 || n < 0 || n > 40) {
            return no(-2);
        }
        Row row = new Row();
        row.sort = sort;
        row.cells = new long[n];
        shelves[s] = row;
        return 1;
    }

    static long kept(int sort, long v) {
        if (sort == 0) {
            return (byte) v;
        }
        if (sort == 1) {
            return (short) v;
        }
        if (sort == 2) {
            return (int) v;
        }
        return sort == 3 ? v : (v != 0 ? 1 : 0);
    }

    public int set(int s, int i, long v) {
        if (!shelf(s)) {
            return no(-2);
        }
        if (shelves[s] instanceof Integer) {
            return no(-3);
        }
        if (shelves[s] == null) {
            return no(-4);
        }
        Row row = (Row) shelves[s];
        if (i < 0 || i >= row.cells.length) {
            return no(-2);
        }
        row.cells[i] = kept(row.sort, v);
        return 1;
    }

    public int copy(int p, int q, int i, int j, int n) {
        if (!shelf(p) || !shelf(q)) {
            return no(-2);
        }
        if (shelves[p] instanceof Integer || shelves[q] instanceof Integer) {
            return no(-3);
        }
        if (shelves[p] != null && shelves[q] != null && ((Row) shelves[p]).sort != ((Row) shelves[q]).sort) {
            return no(-3);
        }
        if (shelves[p] == null || shelves[q] == null) {
            return no(-4);
        }
        long[] from = ((Row) shelves[p]).cells;
        long[] to = ((Row) shelves[q]).cells;
        if (i < 0 || j < 0 || n < 0 || (long) i + n > from.length || (long) j + n > to.length) {
            return no(-2);
        }
        long[] were = Arrays.copyOfRange(from, i, i + n);
        for (int k = 0; k < n; k++) {
            to[j + k] = were[k];
        }
        return n;
    }

    public long element(int s, int i) {
        if (!shelf(s) || !(shelves[s] instanceof Row)) {
            return 0;
        }
        long[] cells = ((Row) shelves[s]).cells;
        return i >= 0 && i < cells.length ? cells[i] : 0;
    }

    public int holds(int s) {
        if (!shelf(s) || shelves[s] == null) {
            return NONE;
        }
        return shelves[s] instanceof Row ? ((Row) shelves[s]).sort : 10 + (Integer) shelves[s];
    }

    public int show(int s, int door) {
        if (!shelf(s) || (door != NONE && !isDoor(door))) {
            return no(-2);
        }
        shelves[s] = door == NONE ? null : Integer.valueOf(door);
        return 1;
    }

    public int says(int s, int kind) {
        if (!shelf(s) || kind < 0 || kind > 5) {
            return no(-2);
        }
        if (shelves[s] instanceof Row) {
            return no(-3);
        }
        if (shelves[s] == null) {
            return no(-4);
        }
        int d = (Integer) shelves[s];
        Door door = now.doors.get(d);
        boolean fits = kind == 0 || kind == door.kind || (kind == 2 && door.kind == 5);
        if (!fits) {
            return no(-3);
        }
        if (kind == 0) {
            return door.weight();
        }
        if (kind == 1) {
            return door.a;
        }
        if (kind == 2 || kind == 5) {
            return now.somebodyShuts(d) ? 1 : 0;
        }
        return now.people.contains(kind == 3 ? door.a : door.b) ? 1 : 0;
    }

    public int door(int kind, int a, int b) {
        if (kind < 0 || kind > 5 || !room(a) || (kind != 1 && (!room(b) || a == b))) {
            return no(-2);
        }
        if (now.doors.size() == 14) {
            return no(-6);
        }
        now.doors.add(new Door(kind, a, kind == 1 ? a : b, false));
        return now.doors.size() - 1;
    }

    public int one(int room) {
        if (!room(room)) {
            return no(-2);
        }
        if (now.people.size() == 4) {
            return no(-6);
        }
        now.people.add(room);
        return now.people.size() - 1;
    }

    public int ask(int what, int v) {
        int was;
        if (what == 0 && 1 <= v && v <= 4) {
            was = now.law;
            now.law = v;
        } else if (what == 1 && 0 <= v && v <= 99) {
            was = now.wind;
            now.wind = v;
        } else {
            return no(-2);
        }
        return was;
    }

    public int stand(int door, boolean open) {
        if (!isDoor(door)) {
            return no(-2);
        }
        boolean was = now.doors.get(door).open;
        now.doors.get(door).open = open;
        return was == open ? 0 : 1;
    }

    public int move(int one, int room) {
        if (!isOne(one) || !room(room)) {
            return no(-2);
        }
        return now.people.set(one, room);
    }

    public int feed(int v, int n) {
        if (n < 1 || n > 4) {
            return no(-2);
        }
        if (tape.size() + n > 250) {
            return no(-6);
        }
        byte[] all = {(byte) (v >> 24), (byte) (v >> 16), (byte) (v >> 8), (byte) v};
        for (int i = 4 - n; i < 4; i++) {
            tape.add(all[i] & 255);
        }
        return tape.size();
    }

    public int wipe() {
        int was = tape.size();
        tape.clear();
        return was;
    }

    static final class Token {
        char sort;
        String text;
        int place;
    }

    List<Token> tokens() {
        List<Token> list = new ArrayList<>();
        int i = 0;
        while (i < tape.size()) {
            char c = (char) (int) tape.get(i);
            if (c == ' ') {
                i++;
                continue;
            }
            Token t = new Token();
            t.place = i;
            t.sort = c >= 'a' && c <= 'z' ? 'w' : c >= '0' && c <= '9' ? 'n' : c == ';' ? ';' : '?';
            StringBuilder text = new StringBuilder();
            do {
                text.append((char) (int) tape.get(i));
                i++;
            } while (i < tape.size() && ((t.sort == 'w' && tape.get(i) >= 'a' && tape.get(i) <= 'z')
                    || (t.sort == 'n' && tape.get(i) >= '0' && tape.get(i) <= '9')));
            t.text = text.toString();
            list.add(t);
        }
        Token end = new Token();
        end.sort = '.';
        end.text = "";
        end.place = tape.size();
        list.add(end);
        return list;
    }

    static final class Fault extends Exception {
        private static final long serialVersionUID = 1L;
        final int place;

        Fault(Token t) {
            place = t.place;
        }
    }

    static int number(Token t, int low, int high, int not) throws Fault {
        if (t.sort != 'n' || t.text.length() > 2) {
            throw new Fault(t);
        }
        int v = Integer.parseInt(t.text);
        if (v < low || v > high || v == not) {
            throw new Fault(t);
        }
        return v;
    }

    public int house() {
        List<Token> list = tokens();
        tape.clear();
        State next = now.twin();
        int count = 0;
        int i = 0;
        try {
            while (true) {
                Token t = list.get(i++);
                switch (t.text) {
                    case "door":
                        if (next.doors.size() == 14) {
                            throw new Fault(t);
                        }
                        int k = number(list.get(i++), 0, 5, -1);
                        int a = number(list.get(i++), 0, 7, -1);
                        int b = number(list.get(i++), 0, 7, k == 1 ? -1 : a);
                        boolean open = list.get(i).text.equals("open");
                        if (open) {
                            i++;
                        }
                        next.doors.add(new Door(k, a, k == 1 ? a : b, open));
                        break;
                    case "one":
                        if (next.people.size() == 4) {
                            throw new Fault(t);
                        }
                        next.people.add(number(list.get(i++), 0, 7, -1));
                        break;
                    case "law":
                        next.law = number(list.get(i++), 1, 4, -1);
                        break;
                    case "wind":
                        next.wind = number(list.get(i++), 0, 99, -1);
                        break;
                    case "moves":
                        int p = number(list.get(i++), 0, next.people.size() - 1, -1);
                        next.people.set(p, number(list.get(i++), 0, 7, -1));
                        break;
                    default:
                        throw new Fault(t);
                }
                count++;
                Token behind = list.get(i++);
                if (behind.sort == '.') {
                    break;
                }
                if (behind.sort != ';') {
                    throw new Fault(behind);
                }
            }
        } catch (Fault f) {
            no(-2);
            return -20 - f.place;
        }
        now = next;
        return count;
    }

    public int doorOf(int door, int what) {
        if (!isDoor(door) || what < 0 || what > 4) {
            return no(-2);
        }
        Door d = now.doors.get(door);
        return new int[] {d.kind, d.a, d.b, d.open ? 1 : 0, d.weight()}[what];
    }

    public int where(int one) {
        return isOne(one) ? now.people.get(one) : no(-2);
    }

    public int doors(int what, int room) {
        if (what < 0 || what > 2 || (what == 1 && !room(room))) {
            return no(-2);
        }
        int bits = 0;
        for (int i = 0; i < now.doors.size(); i++) {
            Door d = now.doors.get(i);
            if (what == 0 ? d.open : what == 1 ? d.at(room) : now.somebodyShuts(i)) {
                bits |= 1 << i;
            }
        }
        return bits;
    }

    public int may(int one, int door, int what) {
        if (!isOne(one) || !isDoor(door) || what < 0 || what > 2) {
            return no(-2);
        }
        boolean may = what == 0 ? now.walks(one, door) : what == 1 ? now.shuts(one, door)
                : !now.sets(one, door).isEmpty();
        return may ? 1 : 0;
    }

    public int by(int one, int door, int set) {
        if (!isOne(one) || !isDoor(door) || set < 0 || set >= 1 << now.doors.size()) {
            return no(-2);
        }
        return now.opens(one, door, set) ? 1 : 0;
    }

    public int ways(int one, int door, int what) {
        if (!isOne(one) || !isDoor(door) || what < 0 || what > 1) {
            return no(-2);
        }
        List<Integer> sets = now.sets(one, door);
        if (what == 0) {
            return sets.size();
        }
        return sets.isEmpty() ? no(-5) : sets.get(0);
    }

    public int walk(int one, int door) {
        if (!isOne(one) || !isDoor(door)) {
            return no(-2);
        }
        if (!now.walks(one, door)) {
            return no(-5);
        }
        now.walk(one, door);
        return now.people.get(one);
    }

    public int shut(int one, int door) {
        if (!isOne(one) || !isDoor(door)) {
            return no(-2);
        }
        if (!now.shuts(one, door)) {
            return no(-5);
        }
        now.doors.get(door).open = false;
        return now.stock();
    }

    public int open(int one, int door, int set) {
        if (!isOne(one) || !isDoor(door) || set < 0 || set >= 1 << now.doors.size()) {
            return no(-2);
        }
        if (!now.opens(one, door, set)) {
            return no(-5);
        }
        now.open(door, set);
        now.openings++;
        return now.stock();
    }

    public int reach(int one) {
        return isOne(one) ? now.reach(one) : no(-2);
    }

    public int shutIn() {
        return now.shutIn();
    }

    /** Fewest openings through the goals from a state, by single acts; the answer is NONE if it can't be. */
    int fewest(State start, int one, int[] goals) {
        Map<Integer, Integer> best = new HashMap<>();
        ArrayDeque<int[]> todo = new ArrayDeque<>();
        State s = start.twin();
        todo.add(new int[] {start.people.get(one), start.openBits(), 0, 0});
        while (!todo.isEmpty()) {
            int[] at = todo.pollFirst();
            int done = at[2];
            if (done < goals.length && goals[done] == at[0]) {
                done++;
                if (done < goals.length) {
                    todo.addFirst(new int[] {at[0], at[1], done, at[3]});
                    continue;
                }
            }
            if (done == goals.length) {
                return at[3];
            }
            int key = (at[1] * 8 + at[0]) * 5 + done;
            if (best.containsKey(key)) {
                continue;
            }
            best.put(key, at[3]);
            s.people.set(one, at[0]);
            s.setOpenBits(at[1]);
            for (int d = 0; d < s.doors.size(); d++) {
                if (s.walks(one, d)) {
                    Door door = s.doors.get(d);
                    todo.addFirst(new int[] {door.a == at[0] ? door.b : door.a, at[1], done, at[3]});
                }
                for (int set : s.sets(one, d)) {
                    todo.addLast(new int[] {at[0], at[1] & ~set | 1 << d, done, at[3] + 1});
                }
            }
        }
        return NONE;
    }

    public int coming(int one, int room) {
        if (!isOne(one) || !room(room)) {
            return no(-2);
        }
        if (now.doors.size() > 9) {
            return no(-5);
        }
        return fewest(now, one, new int[] {room});
    }

    public int all(int one) {
        if (!isOne(one)) {
            return no(-2);
        }
        if (now.doors.size() > 9) {
            return no(-5);
        }
        int bits = 0;
        for (int r = 0; r < 8; r++) {
            if (fewest(now, one, new int[] {r}) != NONE) {
                bits |= 1 << r;
            }
        }
        return bits;
    }

    public int first(int one, int room) {
        if (!isOne(one) || !room(room)) {
            return no(-2);
        }
        if (now.doors.size() > 9) {
            return no(-5);
        }
        int least = fewest(now, one, new int[] {room});
        if (least <= 0) {
            return NONE;
        }
        int reach = now.reach(one);
        for (int d = 0; d < now.doors.size(); d++) {
            for (int r = 0; r < 8; r++) {
                State s = now.twin();
                s.people.set(one, r);
                if ((reach >> r & 1) != 0) {
                    for (int set : s.sets(one, d)) {
                        State then = s.twin();
                        then.open(d, set);
                        if (fewest(then, one, new int[] {room}) == least - 1) {
                            return d;
                        }
                    }
                }
            }
        }
        throw new IllegalStateException("a row of fewest openings has no first one");
    }

    public int errands(int one, int s, int n) {
        if (!isOne(one) || !shelf(s) || n < 0 || n > 4) {
            return no(-2);
        }
        if (shelves[s] instanceof Integer) {
            return no(-3);
        }
        if (shelves[s] == null) {
            return no(-4);
        }
        long[] cells = ((Row) shelves[s]).cells;
        if (cells.length < n) {
            return no(-2);
        }
        if (now.doors.size() > 9) {
            return no(-5);
        }
        int[] goals = new int[n];
        for (int i = 0; i < n; i++) {
            if (cells[i] < 0 || cells[i] > 7) {
                return NONE;
            }
            goals[i] = (int) cells[i];
        }
        return fewest(now, one, goals);
    }

    public int lost() {
        if (now.doors.size() > 9) {
            return no(-5);
        }
        int bits = 0;
        for (int p = 0; p < now.people.size(); p++) {
            if (fewest(now, p, new int[] {0}) == NONE) {
                bits |= 1 << p;
            }
        }
        return bits;
    }

    public int stock() {
        return now.stock();
    }

    /** Step by step, all that can be open after so many openings: by bits if the doors are few, else by counts. */
    static int lasts(List<Door> doors, int law) {
        return doors.size() <= 6 ? lastsByBits(doors, law) : lastsByCounts(doors, law);
    }

    static int lastsByBits(List<Door> doors, int law) {
        Set<Integer> front = new HashSet<>();
        int bits = 0;
        for (int i = 0; i < doors.size(); i++) {
            bits |= doors.get(i).open ? 1 << i : 0;
        }
        front.add(bits);
        for (int step = 0; step < 99; step++) {
            Set<Integer> next = new HashSet<>();
            for (int open : front) {
                for (int set = open; set > 0; set = set - 1 & open) {
                    int total = 0;
                    int lightest = 9;
                    boolean great = false;
                    for (int i = 0; i < doors.size(); i++) {
                        if ((set >> i & 1) != 0) {
                            total += doors.get(i).weight();
                            lightest = Math.min(lightest, doors.get(i).weight());
                            great |= doors.get(i).kind == 5;
                        }
                    }
                    for (int d = 0; d < doors.size() && !great && total >= law && total - lightest < law; d++) {
                        if ((open >> d & 1) == 0) {
                            next.add(open & ~set | 1 << d);
                        }
                    }
                }
            }
            if (next.isEmpty()) {
                return step;
            }
            front = next;
        }
        return 99;
    }

    static int lastsByCounts(List<Door> doors, int law) {
        int[] all = new int[4];
        List<Integer> start = new ArrayList<>(List.of(0, 0, 0, 0));
        for (Door d : doors) {
            int group = d.kind == 2 ? 1 : d.kind == 5 ? 2 : d.kind == 4 ? 3 : 0;
            all[group]++;
            if (d.open) {
                start.set(group, start.get(group) + 1);
            }
        }
        Set<List<Integer>> front = new HashSet<>();
        front.add(start);
        for (int step = 0; step < 99; step++) {
            Set<List<Integer>> next = new HashSet<>();
            for (List<Integer> open : front) {
                for (int u = 0; u <= open.get(0); u++) {
                    for (int v = 0; v <= open.get(1); v++) {
                        int total = u + 2 * v;
                        boolean vain = (u > 0 && total - 1 >= law) || (v > 0 && total - 2 >= law);
                        for (int g = 0; g < 4 && total >= law && !vain; g++) {
                            if (open.get(g) < all[g]) {
                                List<Integer> then = new ArrayList<>(open);
                                then.set(0, then.get(0) - u);
                                then.set(1, then.get(1) - v);
                                then.set(g, then.get(g) + 1);
                                next.add(then);
                            }
                        }
                    }
                }
            }
            if (next.isEmpty()) {
                return step;
            }
            front = next;
        }
        return 99;
    }

    public int lasts() {
        return lasts(now.doors, now.law);
    }

    int worthOf(int door) {
        State s = now.twin();
        s.doors.get(door).open = false;
        return lasts(now.doors, now.law) - lasts(s.doors, now.law);
    }

    public int worth(int door) {
        if (!isDoor(door)) {
            no(-2);
            return -1000002;
        }
        if (!now.doors.get(door).open) {
            no(-5);
            return -1000005;
        }
        return worthOf(door);
    }

    public int spare() {
        int best = NONE;
        for (int d = 0; d < now.doors.size(); d++) {
            if (now.doors.get(d).open && (best == NONE || worthOf(d) < worthOf(best))) {
                best = d;
            }
        }
        return best == NONE ? no(-5) : best;
    }

    public int endless() {
        int bits = 0;
        for (int law = 1; law <= 4; law++) {
            if (lasts(now.doors, law) == 99) {
                bits |= 1 << law;
            }
        }
        return bits;
    }

    public int boxes(int n) {
        if (n < 1 || n > 98) {
            return no(-2);
        }
        State s = now.twin();
        for (int k = 0; k <= 20; k++) {
            if (lastsByCounts(s.doors, now.law) >= n) {
                return k;
            }
            s.doors.add(new Door(0, 0, 1, true));
        }
        return NONE;
    }

    /** The state behind the acts, or null; where[0] is the place of the first wrong one. */
    State play(long[] cells, int n, int[] where) {
        State s = now.twin();
        for (int i = 0; i < n; i++) {
            int set = (int) (cells[i] & 0xFFFF);
            int d = (int) (cells[i] >>> 16 & 0xF);
            int p = (int) (cells[i] >>> 20 & 3);
            int what = (int) (cells[i] >>> 22 & 3);
            boolean there = d < s.doors.size() && p < s.people.size();
            if (what == 3) {
                continue;
            }
            if (there && what == 0 && s.walks(p, d)) {
                s.walk(p, d);
            } else if (there && what == 1 && s.opens(p, d, set)) {
                s.open(d, set);
                s.openings++;
            } else if (there && what == 2 && s.shuts(p, d)) {
                s.doors.get(d).open = false;
            } else {
                where[0] = i;
                return null;
            }
        }
        return s;
    }

    public int judge(int s, int n) {
        if (!shelf(s) || n < 0 || n > 20) {
            return no(-2);
        }
        if (shelves[s] instanceof Integer) {
            return no(-3);
        }
        if (shelves[s] == null) {
            return no(-4);
        }
        if (((Row) shelves[s]).cells.length < n) {
            return no(-2);
        }
        int[] where = {NONE};
        play(((Row) shelves[s]).cells, n, where);
        return where[0];
    }

    public int told(int s, int n, int what) {
        boolean fine = (what >= 0 && what <= 2) || (what >= 10 && isOne(what - 10));
        if (!shelf(s) || n < 0 || n > 20 || !fine) {
            return no(-2);
        }
        if (shelves[s] instanceof Integer) {
            return no(-3);
        }
        if (shelves[s] == null) {
            return no(-4);
        }
        if (((Row) shelves[s]).cells.length < n) {
            return no(-2);
        }
        State then = play(((Row) shelves[s]).cells, n, new int[1]);
        if (then == null) {
            return no(-5);
        }
        if (what == 0) {
            return then.openBits();
        }
        if (what == 1) {
            return then.openings - now.openings;
        }
        return what == 2 ? then.shutIn() : then.people.get(what - 10);
    }

    public int evening(int n) {
        if (n < 1 || n > 60) {
            return no(-2);
        }
        if (now.doors.isEmpty() || now.people.isEmpty()) {
            return no(-5);
        }
        int count = 0;
        for (int i = 0; i < n; i++) {
            int p = now.draw(now.people.size());
            int d = now.draw(now.doors.size());
            List<Integer> sets = now.sets(p, d);
            if (!sets.isEmpty()) {
                now.open(d, sets.get(0));
                count++;
            } else if (now.walks(p, d)) {
                now.walk(p, d);
            }
        }
        now.openings += count;
        return count;
    }

    public int night() {
        int count = 0;
        for (Door d : now.doors) {
            if (!d.open) {
                d.open = now.draw(100) < now.wind;
                count += d.open ? 1 : 0;
            }
        }
        return count;
    }

    public int seed(int v) {
        int was = now.seed;
        now.seed = v;
        return was;
    }

    public int image() {
        kept = now.twin();
        return 1;
    }

    public int back() {
        if (kept == null) {
            return no(-5);
        }
        now = kept.twin();
        for (int s = 0; s < 8; s++) {
            if (shelves[s] instanceof Integer && (Integer) shelves[s] >= now.doors.size()) {
                shelves[s] = null;
            }
        }
        return 1;
    }

    public int status(int what) {
        switch (what) {
            case 0: return now.doors.size();
            case 1: return Integer.bitCount(now.openBits());
            case 2: return now.people.size();
            case 3: return now.law;
            case 4: return now.wind;
            case 5: return now.openings;
            case 6: return tape.size();
            case 7: return now.seed;
            case 8:
                int full = 0;
                for (Object shelf : shelves) {
                    full += shelf == null ? 0 : 1;
                }
                return full;
            default:
                return what >= 12 && what <= 16 ? refused[what - 10] : NONE;
        }
    }
}
