import java.util.function.Supplier;

/** Promises 20 to 27: what one may do, by which sets, the acts themselves, and who is shut in. */
final class PromisesOfActs {
    private static final int BAD = Sentences.BAD;
    private static final int STUCK = Sentences.STUCK;

    private PromisesOfActs() {
    }

    static void tryAll(Sentences s) {
        may(s);
        by(s);
        ways(s);
        walk(s);
        shut(s);
        open(s);
        reach(s);
        shutIn(s);
    }

    /** Open are 1 to 5; of the people one is in 1, one in 3. */
    private static WhoOpensOne some() {
        return TermsOfTellingAndDraws.furnished();
    }

    private static final Supplier<WhoOpensOne> SOME = PromisesOfActs::some;

    /** No such one and no such door, whatever else is given. */
    private static void badOneOrDoor(Sentences s, String name, long... rest) {
        int[][] pairs = {{2, 0}, {-1, 0}, {0, 6}, {0, -1}, {2, 6}, {Integer.MIN_VALUE, 0}, {Integer.MAX_VALUE, 0},
            {0, Integer.MIN_VALUE}, {0, Integer.MAX_VALUE}, {2, 1}, {2, 2}, {0, 14}};
        for (int[] pair : pairs) {
            long[] args = new long[2 + rest.length];
            args[0] = pair[0];
            args[1] = pair[1];
            System.arraycopy(rest, 0, args, 2, rest.length);
            s.refuses(SOME, BAD, name, args);
        }
    }

    private static void may(Sentences s) {
        s.promise(20, "Whether one may WALK through a DOOR (what 0), SHUT it (1), OPEN it by some set (2): 1, 0.");
        WhoOpensOne x = Sentences.house("door 0 1 2 open; door 1 1 1 open; door 3 1 2; door 4 1 2; door 5 1 2 open; door 0 5 6;"
                + "one 1; one 2; one 7");
        int[][][] due = {{{1, 1, 0}, {0, 1, 0}, {0, 0, 1}, {0, 0, 1}, {1, 0, 0}, {0, 0, 0}},
            {{1, 1, 0}, {0, 0, 0}, {0, 0, 0}, {0, 0, 1}, {1, 0, 0}, {0, 0, 0}},
            {{0, 0, 0}, {0, 0, 0}, {0, 0, 0}, {0, 0, 0}, {0, 0, 0}, {0, 0, 0}}};
        for (int one = 0; one < 3; one++) {
            for (int door = 0; door < 6; door++) {
                for (int what = 0; what < 3; what++) {
                    s.due(x, due[one][door][what], "may", one, door, what);
                }
            }
        }
        s.due(x, 2, "ask", 0, 3);
        s.due(x, 0, "may", 0, 2, 2);
        s.due(x, 0, "may", 1, 3, 2);
        s.due(x, 0, "status", 5);
        s.promise(20, "BAD.");
        badOneOrDoor(s, "may", 0);
        badOneOrDoor(s, "may", 2);
        s.refuses(SOME, BAD, "may", 0, 0, 3);
        s.refuses(SOME, BAD, "may", 0, 0, -1);
        for (int far : Sentences.FAR) {
            s.refuses(SOME, BAD, "may", 0, 0, far);
        }
    }

    private static void by(Sentences s) {
        s.promise(21, "Whether one may OPEN a DOOR by a set: 1, 0.");
        WhoOpensOne x = Sentences.house("door 0 0 1; door 0 1 2 open; door 2 1 3 open; door 4 3 1 open; door 0 4 5 open; one 1; one 5");
        for (int set = 0; set < 32; set++) {
            s.due(x, set == 4 || set == 18 ? 1 : 0, "by", 0, 0, set);
            s.due(x, 0, "by", 1, 0, set);
            s.due(x, 0, "by", 0, 1, set);
        }
        s.due(x, 30, "doors", 0, 0);
        s.due(x, 0, "status", 5);
        s.due(x, 0, "status", 12);
        s.due(x, 0, "status", 15);
        s.promise(21, "BAD (also a set with others than DOORS).");
        badOneOrDoor(s, "by", 2);
        for (int set : new int[] {64, 65, 66, 1 << 14, 1 << 30, -1, -64, Integer.MIN_VALUE, Integer.MAX_VALUE}) {
            s.refuses(SOME, BAD, "by", 0, 0, set);
        }
        WhoOpensOne many = TermsOfWhatCanBe.mixture(2, 2, 13, 1);
        s.due(many, 0, "one", 1);
        s.due(many, 1, "by", 0, 13, 1 << 12);
        s.due(many, 0, "by", 0, 13, (1 << 14) - 1);
        s.due(many, BAD, "by", 0, 13, 1 << 14);
        s.due(many, BAD, "by", 0, 13, 1 << 14 | 1);
        s.due(TermsOfWhatCanBe.mixture(2, 2, 13, 1), BAD, "by", 0, 13, 1);
    }

    private static WhoOpensOne rich(int law) {
        return Sentences.house("door 2 1 2 open; door 0 1 2; door 1 1 1 open; door 1 1 1 open; door 2 1 3 open; door 1 1 1 open;"
                + "door 2 1 4 open; door 1 1 1 open; door 4 5 1 open; door 5 1 7 open; door 1 6 6 open; one 1; one 5; law " + law);
    }

    private static void ways(Sentences s) {
        s.promise(22, "How many such sets there are for one and a DOOR (what 0), the least (1, as bits).");
        int[] counts = {7, 9, 19, 22};
        int[] least = {1, 1, 5, 13};
        for (int law = 1; law <= 4; law++) {
            WhoOpensOne x = rich(law);
            s.due(x, counts[law - 1], "ways", 0, 1, 0);
            s.due(x, least[law - 1], "ways", 0, 1, 1);
            s.due(x, 0, "ways", 1, 1, 0);
            s.due(x, 0, "ways", 0, 0, 0);
        }
        WhoOpensOne x = TermsOfWhatCanBe.mixture(4, 0, 13, 1);
        s.due(x, 0, "one", 0);
        s.due(x, 715, "ways", 0, 13, 0);
        s.due(x, 15, "ways", 0, 13, 1);
        s.due(x, 4, "ask", 0, 3);
        s.due(x, 286, "ways", 0, 13, 0);
        s.due(x, 3, "ask", 0, 1);
        s.due(x, 13, "ways", 0, 13, 0);
        x = Sentences.house("door 0 1 2; door 1 1 1 open; one 1");
        s.due(x, 0, "ways", 0, 0, 0);
        s.due(x, 0, "status", 15);
        s.due(Sentences.house("door 1 1 1 open; door 2 1 2 open; door 0 1 2; one 1"), 2, "ways", 0, 2, 1);
        s.due(Sentences.house("door 0 1 2; door 1 1 1 open; door 1 1 1 open; door 1 1 1 open; one 1"), 6, "ways", 0, 0, 1);
        s.due(Sentences.house("door 0 1 2; door 1 1 1 open; door 1 1 1 open; door 2 1 3 open; one 1"), 6, "ways", 0, 0, 1);
        s.due(Sentences.house("door 0 1 2; door 1 1 1 open; door 2 1 3 open; door 2 1 3 open; one 1"), 4, "ways", 0, 0, 1);

        s.promise(22, "BAD; STUCK: 1, if there is none.");
        badOneOrDoor(s, "ways", 0);
        badOneOrDoor(s, "ways", 1);
        s.refuses(SOME, BAD, "ways", 0, 0, 2);
        s.refuses(SOME, BAD, "ways", 0, 0, -1);
        s.refuses(SOME, BAD, "ways", 0, 1, 2);
        for (int far : Sentences.FAR) {
            s.refuses(SOME, BAD, "ways", 0, 0, far);
        }
        s.refuses(SOME, STUCK, "ways", 0, 1, 1);
        s.refuses(SOME, STUCK, "ways", 1, 0, 1);
        s.refuses(() -> Sentences.house("door 0 1 2; door 1 1 1 open; one 1"), STUCK, "ways", 0, 0, 1);
    }

    private static void walk(Sentences s) {
        s.promise(23, "One WALKS through a DOOR: the ROOM then.");
        WhoOpensOne x = some();
        s.due(x, 3, "walk", 0, 1);
        s.due(x, 3, "where", 0);
        s.due(x, 1, "walk", 0, 1);
        s.due(x, 5, "walk", 0, 4);
        s.due(x, 1, "walk", 0, 4);
        s.due(x, 6, "walk", 0, 5);
        s.due(x, 3, "where", 1);
        s.due(x, 62, "doors", 0, 0);
        s.due(x, 1, "status", 5);
        s.promise(23, "BAD; STUCK: they may not.");
        badOneOrDoor(s, "walk");
        s.refuses(SOME, STUCK, "walk", 0, 0);
        s.refuses(SOME, STUCK, "walk", 0, 2);
        s.refuses(SOME, STUCK, "walk", 1, 4);
        s.refuses(SOME, STUCK, "walk", 1, 0);
    }

    private static void shut(Sentences s) {
        s.promise(24, "One SHUTS a DOOR: STOCK then.");
        WhoOpensOne x = some();
        s.due(x, 4, "stock");
        s.due(x, 4, "shut", 0, 4);
        s.due(x, 46, "doors", 0, 0);
        s.due(x, 3, "shut", 0, 3);
        s.due(x, 1, "shut", 1, 1);
        s.due(x, 0, "shut", 0, 2);
        s.due(x, 32, "doors", 0, 0);
        s.due(x, 1, "where", 0);
        s.due(x, 1, "status", 5);
        s.promise(24, "BAD; STUCK likewise.");
        badOneOrDoor(s, "shut");
        s.refuses(SOME, STUCK, "shut", 0, 0);
        s.refuses(SOME, STUCK, "shut", 0, 5);
        s.refuses(SOME, STUCK, "shut", 1, 2);
        s.refuses(SOME, STUCK, "shut", 1, 4);
        s.refuses(() -> Sentences.house("door 4 1 2 open; one 1"), STUCK, "shut", 0, 0);
    }

    private static void open(Sentences s) {
        s.promise(25, "One OPENS a DOOR by a set: STOCK then.");
        WhoOpensOne x = some();
        s.due(x, 3, "open", 0, 0, 2);
        s.due(x, 61, "doors", 0, 0);
        s.due(x, 3, "open", 0, 1, 5);
        s.due(x, 58, "doors", 0, 0);
        s.due(x, 3, "status", 5);
        s.due(x, 1, "stand", 5, 0);
        s.due(x, 1, "open", 0, 5, 2);
        s.due(x, 56, "doors", 0, 0);
        s.due(x, 4, "status", 5);
        s.due(x, 1, "where", 0);
        s.promise(25, "BAD (as by()); STUCK likewise.");
        badOneOrDoor(s, "open", 2);
        for (int set : new int[] {64, 66, 1 << 14, -1, Integer.MIN_VALUE, Integer.MAX_VALUE}) {
            s.refuses(SOME, BAD, "open", 0, 0, set);
            s.refuses(SOME, BAD, "open", 0, 1, set);
        }
        for (int set : new int[] {0, 1, 3, 4, 6, 8, 16, 18, 32, 34, 36, 20, 63}) {
            s.refuses(SOME, STUCK, "open", 0, 0, set);
        }
        s.refuses(SOME, STUCK, "open", 1, 0, 2);
        s.refuses(SOME, STUCK, "open", 0, 1, 12);
        s.refuses(SOME, STUCK, "open", 0, 3, 2);
    }

    private static void reach(Sentences s) {
        s.promise(26, "REACH.");
        WhoOpensOne x = some();
        s.due(x, 122, "reach", 0);
        s.due(x, 122, "reach", 1);
        s.due(x, 1, "stand", 1, 0);
        s.due(x, 114, "reach", 0);
        s.due(x, 8, "reach", 1);
        s.promise(26, "BAD.");
        s.refuses(SOME, BAD, "reach", 2);
        s.refuses(SOME, BAD, "reach", -1);
        s.refuses(WhoOpensOne::new, BAD, "reach", 0);
        for (int far : Sentences.FAR) {
            s.refuses(SOME, BAD, "reach", far);
        }
    }

    private static void shutIn(Sentences s) {
        s.promise(27, "SHUT IN (PEOPLE as bits).");
        WhoOpensOne x = Sentences.house("one 7; one 0; one 5; one 6; door 0 6 0 open; door 1 5 5 open; door 0 7 5 open");
        s.due(x, 5, "shutIn");
        s.due(x, 1, "stand", 0, 0);
        s.due(x, 13, "shutIn");
        s.due(x, 3, "door", 5, 5, 0);
        s.due(x, 1, "stand", 3, 1);
        s.due(x, 8, "shutIn");
        s.due(new WhoOpensOne(), 0, "shutIn");
    }
}
