import java.lang.reflect.InvocationTargetException;
import java.lang.reflect.Method;
import java.lang.reflect.Modifier;
import java.util.ArrayList;
import java.util.Arrays;
import java.util.Comparator;
import java.util.List;
import java.util.Random;

/** Long runs of calls drawn with fixed seeds, each answer against that of the slow Oracle. */
public final class AgainstOracleTest {
    private static final int RUNS = Integer.getInteger("runs", 600);
    private static final int CALLS = 400;
    private static final int[] EXTREMES = {-1, -2, 8, 14, 15, 16, 41, 61, 100, Integer.MAX_VALUE, Integer.MIN_VALUE};

    private final Random random;
    private final WhoOpensOne program = new WhoOpensOne();
    private final Oracle oracle = new Oracle();
    private final List<String> history = new ArrayList<>();
    private final int style;

    private AgainstOracleTest(int run) {
        random = new Random(run * 7919L + Integer.getInteger("from", 0));
        style = run % 6;
    }

    public static void main(String[] args) throws ReflectiveOperationException {
        List<Method> methods = new ArrayList<>();
        for (Method m : WhoOpensOne.class.getDeclaredMethods()) {
            if (Modifier.isPublic(m.getModifiers())) {
                methods.add(m);
            }
        }
        methods.sort(Comparator.comparing(Method::getName));
        int wrong = 0;
        for (int run = 0; run < RUNS; run++) {
            wrong += new AgainstOracleTest(run).go(methods) ? 0 : 1;
        }
        System.out.println(wrong == 0 ? RUNS + " runs as the oracle has them" : wrong + " runs differ");
        if (wrong != 0) {
            System.exit(1);
        }
    }

    private boolean go(List<Method> methods) throws ReflectiveOperationException {
        boolean fine = furnish();
        for (int i = 0; i < CALLS && fine; i++) {
            Method m = methods.get(random.nextInt(methods.size()));
            boolean grows = m.getName().equals("door") || m.getName().equals("one");
            if (!grows || random.nextInt(4) == 0) {
                fine = same(m.getName(), arguments(m.getName(), m.getParameterCount()));
            }
            if (fine && random.nextInt(12) == 0) {
                fine = writeActs();
            }
            if (fine && random.nextInt(12) == 0) {
                fine = writeErrands();
            }
            if (fine && random.nextInt(40) == 0) {
                fine = writeHouse();
            }
        }
        return fine;
    }

    private boolean furnish() throws ReflectiveOperationException {
        int doors = style == 5 ? 10 + random.nextInt(5) : random.nextInt(10);
        int rooms = 2 + random.nextInt(7);
        boolean fine = true;
        for (int d = 0; d < doors && fine; d++) {
            int a = random.nextInt(rooms);
            int kind = style == 1 ? 2 * random.nextInt(2) : random.nextInt(6);
            fine = same("door", kind, a, (a + 1 + random.nextInt(rooms - 1)) % rooms)
                    && same("stand", d, random.nextInt(style == 2 ? 4 : 2));
        }
        for (int p = random.nextInt(4); p >= 0 && fine; p--) {
            fine = same("one", random.nextInt(rooms));
        }
        return fine && same("ask", 0, 1 + random.nextInt(4));
    }

    private int few(int bound) {
        if (random.nextInt(25) == 0) {
            return EXTREMES[random.nextInt(EXTREMES.length)];
        }
        return random.nextInt(Math.max(1, bound));
    }

    private int door() {
        return few(oracle.now.doors.size());
    }

    private int one() {
        return few(oracle.now.people.size());
    }

    private int set() {
        int draw = random.nextInt(30);
        if (draw == 0) {
            return random.nextInt();
        }
        int bits = random.nextInt(1 << oracle.now.doors.size());
        return draw < 8 ? bits : bits & random.nextInt(1 << 14) & oracle.now.openBits();
    }

    /** A set that fits, if there is one. */
    private int fittingSet(int one, int door) {
        if (one >= 0 && one < oracle.now.people.size() && door >= 0 && door < oracle.now.doors.size()
                && random.nextInt(4) != 0) {
            List<Integer> sets = oracle.now.sets(one, door);
            if (!sets.isEmpty()) {
                return sets.get(random.nextInt(sets.size()));
            }
        }
        return set();
    }

    private long[] arguments(String name, int count) {
        switch (name) {
            case "row": return new long[] {few(8), few(5), random.nextInt(3) == 0 ? few(41) : few(6)};
            case "set": return new long[] {few(8), few(6), random.nextInt(3) == 0 ? random.nextLong() : random.nextInt(9)};
            case "copy": return new long[] {few(8), few(8), few(4), few(4), few(4)};
            case "element": return new long[] {few(8), few(6)};
            case "show": return new long[] {few(8), random.nextInt(6) == 0 ? -1 : door()};
            case "says": return new long[] {few(8), few(6)};
            case "door": return new long[] {few(6), few(8), few(8)};
            case "ask": return new long[] {few(2), few(5)};
            case "stand": return new long[] {door(), random.nextInt(2)};
            case "feed": return new long[] {random.nextInt(), few(5)};
            case "doorOf": return new long[] {door(), few(5)};
            case "doors": return new long[] {few(3), few(8)};
            case "may": case "ways": return new long[] {one(), door(), few(3)};
            case "by": case "open":
                int one = one();
                int door = door();
                return new long[] {one, door, fittingSet(one, door)};
            case "walk": case "shut": return new long[] {one(), door()};
            case "coming": case "first": case "move": return new long[] {one(), few(8)};
            case "errands": return new long[] {one(), few(8), few(5)};
            case "worth": return new long[] {door()};
            case "boxes": return new long[] {random.nextInt(3) == 0 ? few(99) : few(20)};
            case "judge": return new long[] {few(8), few(6)};
            case "told": return new long[] {few(8), few(6), random.nextInt(3) == 0 ? 10 + one() : few(3)};
            case "evening": return new long[] {random.nextInt(3) == 0 ? few(62) : few(5)};
            case "seed": return new long[] {random.nextInt()};
            case "status": return new long[] {few(18)};
            case "reach": case "where": case "all": return new long[] {one()};
            default:
                long[] small = new long[count];
                for (int i = 0; i < count; i++) {
                    small[i] = few(8);
                }
                return small;
        }
    }

    /** A row of acts most of which may be, as things stand; then what the program says of them. */
    private boolean writeActs() throws ReflectiveOperationException {
        int shelf = random.nextInt(8);
        int n = 1 + random.nextInt(5);
        boolean fine = same("row", shelf, 2 + random.nextInt(2), n);
        Oracle.State s = oracle.now.twin();
        for (int i = 0; i < n && fine; i++) {
            long act = random.nextInt();
            for (int tries = 0; tries < 30 && !s.people.isEmpty() && !s.doors.isEmpty(); tries++) {
                int p = random.nextInt(s.people.size());
                int d = random.nextInt(s.doors.size());
                List<Integer> sets = s.sets(p, d);
                long rest = (long) p << 20 | (long) d << 16 | (long) random.nextInt() << 24;
                if (!sets.isEmpty()) {
                    int set = sets.get(random.nextInt(sets.size()));
                    s.open(d, set);
                    act = rest | 1L << 22 | set;
                    break;
                } else if (s.walks(p, d) && random.nextBoolean()) {
                    s.walk(p, d);
                    act = rest | random.nextInt(1 << 16);
                    break;
                } else if (s.shuts(p, d) && random.nextInt(3) == 0) {
                    s.doors.get(d).open = false;
                    act = rest | 2L << 22 | random.nextInt(1 << 16);
                    break;
                }
            }
            fine = same("set", shelf, i, act);
        }
        return fine && same("judge", shelf, n) && same("told", shelf, n, random.nextInt(3))
                && same("told", shelf, n, 10 + random.nextInt(4));
    }

    private boolean writeErrands() throws ReflectiveOperationException {
        int shelf = random.nextInt(8);
        int n = 1 + random.nextInt(4);
        boolean fine = same("row", shelf, random.nextInt(5), n);
        for (int i = 0; i < n && fine; i++) {
            fine = same("set", shelf, i, random.nextInt(20) == 0 ? 8 : random.nextInt(2 + random.nextInt(7)));
        }
        for (int p = 0; p < oracle.now.people.size() && fine; p++) {
            fine = same("errands", p, shelf, n);
        }
        return fine;
    }

    /** A text of a house, whole or spoilt in one place. */
    private boolean writeHouse() throws ReflectiveOperationException {
        StringBuilder text = new StringBuilder();
        int statements = 1 + random.nextInt(style == 5 ? 14 : 3);
        for (int i = 0; i < statements; i++) {
            text.append(i == 0 ? "" : pick(";", " ; ", "; ")).append(statement());
        }
        if (random.nextInt(2) == 0) {
            int place = random.nextInt(text.length());
            switch (random.nextInt(4)) {
                case 0: text.deleteCharAt(place); break;
                case 1: text.insert(place, pick(";", " ", "0", "x", "A", "open", "77")); break;
                case 2: text.setCharAt(place, pick("9", ";", " ", "z", "-", "\u00e9").charAt(0)); break;
                default: text.setLength(place);
            }
        }
        boolean fine = same("wipe");
        for (int i = 0; i < text.length() && fine; ) {
            int n = Math.min(1 + random.nextInt(4), text.length() - i);
            int v = random.nextInt();
            for (int k = 0; k < n; k++, i++) {
                v = v << 8 | text.charAt(i);
            }
            fine = same("feed", v, n);
        }
        return fine && same("house") && same("status", 0) && same("status", 2);
    }

    private String statement() {
        int a = random.nextInt(8);
        int b = random.nextInt(12) == 0 ? a : (a + 1 + random.nextInt(7)) % 8;
        switch (random.nextInt(6)) {
            case 0: return "one " + random.nextInt(8);
            case 1: return "law " + (random.nextInt(8) == 0 ? 0 : 1 + random.nextInt(4));
            case 2: return "wind" + pick(" ", "") + random.nextInt(random.nextInt(5) == 0 ? 120 : 100);
            case 3: return "moves " + random.nextInt(Math.max(1, oracle.now.people.size() + random.nextInt(2))) + " " + a;
            default: return "door " + pick("", "0") + random.nextInt(6) + " " + a + "  " + b + pick("", " ", " open", "open ");
        }
    }

    private String pick(String... some) {
        return some[random.nextInt(some.length)];
    }

    private boolean same(String name, long... args) throws ReflectiveOperationException {
        history.add(name + Arrays.toString(args));
        long due = call(oracle, name, args);
        long got;
        try {
            got = call(program, name, args);
        } catch (InvocationTargetException thrown) {
            System.out.println(history + " threw " + thrown.getCause());
            return false;
        }
        if (got != due) {
            System.out.println(history + " answered " + got + ", the oracle " + due);
        }
        return got == due;
    }

    private static long call(Object target, String name, long[] args) throws ReflectiveOperationException {
        for (Method m : target.getClass().getDeclaredMethods()) {
            if (m.getName().equals(name) && m.getParameterCount() == args.length && Modifier.isPublic(m.getModifiers())) {
                Object[] given = new Object[args.length];
                for (int i = 0; i < args.length; i++) {
                    Class<?> type = m.getParameterTypes()[i];
                    given[i] = type == boolean.class ? (Object) (args[i] == 1)
                            : type == long.class ? (Object) args[i] : (Object) (int) args[i];
                }
                return ((Number) m.invoke(target, given)).longValue();
            }
        }
        throw new NoSuchMethodException(name);
    }
}
