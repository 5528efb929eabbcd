import java.util.function.Supplier;

/** The terms of told acts, evenings, nights, draws, shelves, rows and refusals. */
final class TermsOfTellingAndDraws {
    private static final int NONE = Sentences.NONE;
    private static final int BAD = Sentences.BAD;
    private static final int OTHER = Sentences.OTHER;
    private static final int NOTHING = Sentences.NOTHING;
    private static final int STUCK = Sentences.STUCK;
    private static final int FULL = Sentences.FULL;

    private TermsOfTellingAndDraws() {
    }

    static void tryAll(Sentences s) {
        acts(s);
        wrong(s);
        shutIn(s);
        evening(s);
        night(s);
        draw(s);
        shelves(s);
        elements(s);
        refusals(s);
    }

    static long act(long what, long one, long door, long set) {
        return what << 22 | one << 20 | door << 16 | set;
    }

    /** Acts on a new house of this text: what is open behind them, and where each of the people is. */
    private static void told(Sentences s, String house, long open, long rooms, long... acts) {
        WhoOpensOne x = Sentences.house(house);
        TermsOfWhatCanBe.setRow(s, x, 0, acts);
        s.due(x, NONE, "judge", 0, acts.length);
        s.due(x, open, "told", 0, acts.length, 0);
        long digits = rooms;
        for (int p = (int) s.call(x, "status", 2) - 1; p >= 0; p--) {
            s.due(x, digits % 10, "told", 0, acts.length, 10 + p);
            digits /= 10;
        }
    }

    private static void isWrong(Sentences s, String house, long where, long... acts) {
        WhoOpensOne x = Sentences.house(house);
        TermsOfWhatCanBe.setRow(s, x, 0, acts);
        s.due(x, where, "judge", 0, acts.length);
        s.due(x, where == NONE ? 0 : STUCK, "told", 0, acts.length, 1);
    }

    private static final String THREE = "door 0 1 2 open; door 0 1 3 open; door 0 1 0; one 1; one 3";

    private static void acts(Sentences s) {
        s.terms("A told ROW of ACTS: each element, from its lowest bits on: 16 bits a set of DOORS, 4 bits a DOOR, "
                + "2 bits one of the PEOPLE, 2 bits what:");
        told(s, THREE, 4, 13, 4325379);
        told(s, THREE, 1, 13, 9502720);
        told(s, THREE, 3, 11, 1114112);
        String full = "one 4; one 5; one 6; one 7; law 1; door 1 7 7 open; door 1 7 7; door 1 7 7; door 1 7 7; door 1 7 7; door 1 7 7;"
                + "door 1 7 7; door 1 7 7; door 1 7 7; door 1 7 7; door 1 7 7; door 1 7 7; door 1 7 7; door 0 7 1";
        told(s, full, 1 << 13, 4561, act(1, 3, 13, 1), act(0, 3, 13, 0));
        told(s, full, 1, 4567, act(1, 3, 13, 1), act(1, 3, 0, 1 << 13));

        s.terms("0 WALKS, 1 OPENS (by the set), 2 SHUTS, 3 nothing (whatever the rest is);");
        told(s, THREE, 3, 23, act(0, 0, 0, 0));
        told(s, THREE, 3, 23, act(0, 0, 0, 65535));
        told(s, THREE, 4, 13, act(1, 0, 2, 3));
        told(s, THREE, 2, 13, act(2, 0, 0, 0));
        told(s, THREE, 2, 13, act(2, 0, 0, 65535));
        for (int bits = 0; bits < 1 << 22; bits += 174763) {
            told(s, THREE, 3, 13, act(3, 0, 0, bits));
        }
        told(s, THREE, 3, 13, act(3, 3, 15, 65535));
        isWrong(s, THREE, 0, act(1, 0, 2, 1));
        isWrong(s, THREE, 0, act(1, 0, 2, 7));
        isWrong(s, THREE, 0, act(1, 0, 2, 0));
        isWrong(s, THREE, 0, act(1, 0, 2, 3 | 1 << 3));
        isWrong(s, THREE, 0, act(1, 0, 2, 3 | 1 << 14));
        isWrong(s, THREE, 0, act(1, 0, 2, 3 | 1 << 15));

        s.terms("higher bits don't count.");
        for (int bit = 24; bit < 64; bit++) {
            told(s, THREE, 4, 13, act(1, 0, 2, 3) | 1L << bit);
        }
        told(s, THREE, 3, 23, act(0, 0, 0, 0) | -1L << 24);
        isWrong(s, THREE, 0, act(0, 0, 2, 0) | -1L << 24);
    }

    private static void wrong(Sentences s) {
        s.terms("WRONG at the first that may not be.");
        isWrong(s, THREE, 0, act(0, 0, 2, 0));
        isWrong(s, THREE, 1, act(3, 0, 0, 0), act(0, 0, 2, 0), act(0, 0, 2, 0));
        isWrong(s, THREE, 2, act(0, 0, 0, 0), act(0, 0, 0, 0), act(0, 1, 0, 0), act(3, 0, 0, 0));
        isWrong(s, THREE, 0, act(2, 0, 2, 0));
        isWrong(s, THREE, 0, act(2, 1, 0, 0));
        isWrong(s, THREE, 0, act(1, 0, 0, 2));
        isWrong(s, THREE, 0, act(1, 1, 2, 3));
        isWrong(s, THREE, 0, act(0, 2, 0, 0));
        isWrong(s, THREE, 0, act(2, 3, 0, 0));
        isWrong(s, THREE, 0, act(1, 2, 2, 3));
        isWrong(s, THREE, 0, act(0, 0, 3, 0));
        isWrong(s, THREE, 0, act(2, 0, 15, 0));
        isWrong(s, THREE, 0, act(1, 0, 3, 3));
        isWrong(s, THREE, 1, act(2, 0, 0, 0), act(1, 0, 2, 3));
        isWrong(s, THREE, 1, act(1, 0, 2, 3), act(0, 0, 0, 0));
        isWrong(s, THREE, NONE, act(3, 0, 0, 0));
        isWrong(s, "one 1", 0, 0);
        isWrong(s, "door 0 1 2 open", 0, 0);
    }

    private static void shutIn(Sentences s) {
        s.terms("SHUT IN: those whose REACH has not ROOM 0.");
        WhoOpensOne x = Sentences.house("door 0 1 2 open; door 5 2 0 open; door 1 3 3 open; door 0 3 0; one 1; one 3; one 0; one 2");
        s.due(x, 2, "shutIn");
        s.due(x, 1, "stand", 1, 0);
        s.due(x, 11, "shutIn");
        s.due(x, 1, "stand", 3, 1);
        s.due(x, 9, "shutIn");
        s.due(new WhoOpensOne(), 0, "shutIn");
    }

    /** The seed behind so many draws, and what each draw is: written as the document has it, with longs. */
    static int next(int seed) {
        return (int) ((seed * 1103515245L + 12345L) & 0xFFFFFFFFL);
    }

    static int drawn(int seed, int below) {
        return (int) (((next(seed) & 0xFFFFFFFFL) >> 16) % below);
    }

    /** The least seed from 0 on whose two first draws are these. */
    static int seedFor(int people, int one, int doors, int door) {
        int seed = 0;
        while (drawn(seed, people) != one || drawn(next(seed), doors) != door) {
            seed++;
        }
        return seed;
    }

    /** One turn of an evening in which that one and that door are drawn. */
    private static WhoOpensOne turn(Sentences s, String house, int one, int door, int openings) {
        WhoOpensOne x = Sentences.house(house);
        int seed = seedFor((int) s.call(x, "status", 2), one, (int) s.call(x, "status", 0), door);
        s.call(x, "seed", seed);
        s.due(x, openings, "evening", 1);
        s.due(x, next(next(seed)), "status", 7);
        return x;
    }

    private static void evening(Sentences s) {
        String house = "door 0 1 2 open; door 0 1 3 open; door 2 1 0; door 0 1 4 open; door 1 1 1; one 1; one 5; one 2";
        s.terms("RULES of an EVENING IN TRUTH: again and again a DRAW below how many PEOPLE: one; a DRAW below how many DOORS:");
        int[][] roomThen = {{2, 3, 1, 4, 1}, {5, 5, 5, 5, 5}, {1, 2, 2, 2, 2}};
        for (int one = 0; one < 3; one++) {
            for (int door = 0; door < 5; door++) {
                boolean opens = one == 0 && (door == 2 || door == 4);
                WhoOpensOne x = turn(s, house, one, door, opens ? 1 : 0);
                s.due(x, roomThen[one][door], "where", one);
                s.due(x, opens ? 8 | 1 << door : 11, "doors", 0, 0);
            }
        }
        s.terms("if that one may OPEN it by some set, it is opened by the least such set (as bits);");
        s.due(turn(s, house, 0, 2, 1), 12, "doors", 0, 0);
        String gates = "door 2 1 2 open; door 1 1 1 open; door 1 1 1 open; door 0 1 3; one 1; one 1; law ";
        s.due(turn(s, gates + 1, 0, 3, 1), 14, "doors", 0, 0);
        s.due(turn(s, gates + 2, 0, 3, 1), 14, "doors", 0, 0);
        s.due(turn(s, gates + 3, 0, 3, 1), 12, "doors", 0, 0);
        s.due(turn(s, gates + 4, 1, 3, 1), 8, "doors", 0, 0);

        s.terms("else, if they may WALK through it, they do;");
        s.due(turn(s, house, 0, 3, 0), 4, "where", 0);
        s.due(turn(s, house, 2, 0, 0), 1, "where", 2);
        WhoOpensOne x = turn(s, "door 0 1 0; door 1 1 1 open; one 1; one 2", 0, 0, 0);
        s.due(x, 1, "where", 0);
        s.due(x, 2, "doors", 0, 0);
        x = turn(s, "door 0 1 0; door 1 1 1 open; one 1; one 2", 0, 1, 0);
        s.due(x, 1, "where", 0);
        s.due(x, 2, "doors", 0, 0);

        s.terms("so n times.");
        x = Sentences.house("door 0 1 2 open; one 1");
        int seed = 5;
        s.call(x, "seed", seed);
        for (int n = 1; n <= 60; n += n < 5 ? 1 : 11) {
            for (int i = 0; i < 2 * n; i++) {
                seed = next(seed);
            }
            int was = (int) s.call(x, "where", 0);
            s.due(x, 0, "evening", n);
            s.due(x, seed, "status", 7);
            s.due(x, n % 2 == 0 ? was : 3 - was, "where", 0);
        }
    }

    private static void night(Sentences s) {
        s.terms("A NIGHT: of each DOOR not OPEN, by numbers, a DRAW below 100: it is OPEN, if that is below WIND.");
        String house = "door 0 1 2; door 2 1 3 open; door 5 4 5; door 1 1 1; door 4 6 7 open; door 3 1 0; wind ";
        for (int wind = 0; wind < 100; wind++) {
            WhoOpensOne x = Sentences.house(house + wind);
            int seed = 987654321 * wind;
            s.call(x, "seed", seed);
            int open = 18;
            for (int d : new int[] {0, 2, 3, 5}) {
                open |= drawn(seed, 100) < wind ? 1 << d : 0;
                seed = next(seed);
            }
            s.due(x, Integer.bitCount(open) - 2, "night");
            s.due(x, open, "doors", 0, 0);
            s.due(x, seed, "status", 7);
        }
        for (int wind : new int[] {38, 39}) {
            s.due(Sentences.house("door 0 0 1; wind " + wind), wind - 38, "night");
        }
    }

    private static void draw(Sentences s) {
        s.terms("A DRAW below n: SEED (1 at first) becomes SEED times 1103515245, and 12345 (an int, wrapping);");
        WhoOpensOne x = Sentences.house("door 0 0 1");
        s.due(x, 1, "status", 7);
        s.due(x, 0, "night");
        s.due(x, 1103527590, "status", 7);
        int[][] seeds = {{0, 12345}, {2, -2087924461}, {-1, -1103502900}, {Integer.MIN_VALUE, -2147471303}};
        for (int[] pair : seeds) {
            s.call(x, "seed", pair[0]);
            s.due(x, 0, "night");
            s.due(x, pair[1], "status", 7);
        }
        s.terms("its upper 16 bits, no sign, modulo n.");
        // 12345 has 0 above; 1103527590 has 16838; 2207042835 has 33676, whose sign bit is set.
        int[][] seedAndDraw = {{0, 0}, {1, 38}, {2, 76}};
        for (int[] pair : seedAndDraw) {
            for (int more = 0; more < 2; more++) {
                x = Sentences.house("door 0 0 1; wind " + (pair[1] + more));
                s.call(x, "seed", pair[0]);
                s.due(x, more, "night");
            }
        }
        x = Sentences.house("door 0 0 1 open; one 0; one 0; one 0");
        s.call(x, "seed", 2);
        s.due(x, 0, "evening", 1);
        s.due(x, 1, "where", 1);
    }

    private static void shelves(Sentences s) {
        s.terms("SHELVES 0 to 7 hold NOTHING (at first), a ROW, or a DOOR.");
        WhoOpensOne x = Sentences.house("door 0 1 2; door 0 1 2");
        for (int i = 0; i < 8; i++) {
            s.due(x, NONE, "holds", i);
            s.due(x, i, "status", 8);
            s.due(x, 1, i % 2 == 0 ? "row" : "show", i % 2 == 0 ? new long[] {i, 2, 3} : new long[] {i, 1});
            s.due(x, i % 2 == 0 ? 2 : 11, "holds", i);
        }
        s.due(x, BAD, "row", 8, 2, 3);
        s.due(x, BAD, "row", -1, 2, 3);
        s.due(x, BAD, "show", 8, 1);
        s.due(x, BAD, "show", -1, 1);
        for (int i = 0; i < 8; i++) {
            s.due(x, i % 2 == 0 ? 2 : 11, "holds", i);
            s.due(x, 1, "show", i, NONE);
            s.due(x, NONE, "holds", i);
            s.due(x, 7 - i, "status", 8);
        }
    }

    private static void elements(Sentences s) {
        s.terms("A ROW has a SORT (0 bytes, 1 shorts, 2 ints, 3 longs, 4 booleans) and 0 to 40 elements (0, or not so, at first);");
        WhoOpensOne x = new WhoOpensOne();
        for (int sort = 0; sort < 5; sort++) {
            for (int size = 0; size <= 40; size += 40) {
                s.due(x, 1, "row", 5, sort, size);
                s.due(x, sort, "holds", 5);
                s.due(x, 0, "element", 5, 0);
                s.due(x, 0, "element", 5, 39);
                s.due(x, size == 0 ? BAD : 1, "set", 5, 0, 1);
                s.due(x, size == 0 ? BAD : 1, "set", 5, 39, 1);
                s.due(x, BAD, "set", 5, 40, 1);
                s.due(x, size == 0 ? 0 : 1, "element", 5, 39);
            }
            s.due(x, BAD, "row", 5, sort, 41);
            s.due(x, BAD, "row", 5, sort, -1);
        }
        s.due(x, BAD, "row", 5, 5, 1);
        s.due(x, BAD, "row", 5, -1, 1);

        s.terms("what is put in keeps its lowest bits (of booleans: whether it is not 0); told they are numbers (1, 0).");
        long[] values = {0, 1, -1, 2, 127, 128, 255, 256, 32767, 32768, 65536, 1L << 31, (1L << 31) - 1, 1L << 32, Long.MIN_VALUE,
            Long.MAX_VALUE, 0x123456789ABCDEF0L};
        long[] bytes = {0, 1, -1, 2, 127, -128, -1, 0, -1, 0, 0, 0, -1, 0, 0, -1, -16};
        long[] shorts = {0, 1, -1, 2, 127, 128, 255, 256, 32767, -32768, 0, 0, -1, 0, 0, -1, -8464};
        long[] ints = {0, 1, -1, 2, 127, 128, 255, 256, 32767, 32768, 65536, -2147483648L, 2147483647, 0, 0, -1, -1698898192};
        long[] truths = {0, 1, 1, 1, 1, 1, 1, 1, 1, 1, 1, 1, 1, 1, 1, 1, 1};
        long[][] kept = {bytes, shorts, ints, values, truths};
        x = new WhoOpensOne();
        for (int sort = 0; sort < 5; sort++) {
            s.due(x, 1, "row", sort, sort, values.length);
            for (int i = 0; i < values.length; i++) {
                s.due(x, 1, "set", sort, i, values[i]);
                s.due(x, kept[sort][i], "element", sort, i);
            }
        }
        x = Sentences.house("door 0 1 0 open; one 1; one 0");
        s.call(x, "row", 0, 4, 2);
        s.call(x, "set", 0, 0, 256);
        s.due(x, 0, "errands", 0, 0, 2);
        s.due(x, 0, "told", 0, 1, 10);
        s.due(x, 1, "told", 0, 2, 10);
    }

    /** A house in which something of every sort can be changed by mistake. */
    static WhoOpensOne furnished() {
        WhoOpensOne x = Sentences.house("door 0 1 2 open; door 2 1 3 open; door 1 1 1 open; door 3 1 4; door 4 5 1 open; door 5 1 6 open;"
                + "one 1; one 3; law 2; wind 50");
        x.open(0, 3, 5);
        x.image();
        x.stand(2, true);
        x.seed(-77);
        x.row(0, 3, 3);
        x.row(1, 2, 40);
        for (int i = 0; i < 40; i++) {
            x.set(i < 3 ? 0 : 1, i, i + 1);
        }
        x.show(2, 1);
        return Sentences.feed(x, "law 3;one 2");
    }

    private static WhoOpensOne crowded() {
        WhoOpensOne x = furnished();
        for (int d = 0; d < 9; d++) {
            x.door(0, 6, 7);
            x.one(5);
        }
        return Sentences.feed(x, " ".repeat(238));
    }

    private static void refusals(Sentences s) {
        Supplier<WhoOpensOne> some = TermsOfTellingAndDraws::furnished;
        s.terms("REFUSALS (the call answers the number; nothing changes but how many there were;");
        s.refuses(some, BAD, "row", 0, 5, 1);
        s.refuses(some, BAD, "stand", 6, 1);
        s.refuses(some, BAD, "move", 0, 8);
        s.refuses(some, STUCK, "shut", 0, 5);
        s.refuses(some, STUCK, "open", 0, 0, 6);
        s.refuses(some, OTHER, "copy", 0, 1, 0, 0, 1);

        s.terms("the first that fits as each line has them):");
        s.refuses(some, OTHER, "set", 2, 99, 1);
        s.refuses(some, NOTHING, "set", 3, 99, 1);
        s.refuses(some, BAD, "says", 3, 6);
        s.refuses(some, BAD, "open", 0, 0, 64);
        s.refuses(TermsOfTellingAndDraws::crowded, BAD, "door", 0, 8, 0);

        s.terms("-2 BAD a number that may not be, nothing of that number.");
        s.refuses(some, BAD, "doorOf", 0, 5);
        s.refuses(some, BAD, "doorOf", 6, 0);
        s.refuses(some, BAD, "where", 2);

        s.terms("-3 OTHER: a SHELF that holds another thing than is wanted.");
        s.refuses(some, OTHER, "set", 2, 0, 1);
        s.refuses(some, OTHER, "says", 0, 0);
        s.refuses(some, OTHER, "judge", 2, 0);

        s.terms("-4 NOTHING: a SHELF that holds NOTHING.");
        s.refuses(some, NOTHING, "set", 3, 0, 1);
        s.refuses(some, NOTHING, "says", 3, 0);
        s.refuses(some, NOTHING, "judge", 3, 0);

        s.terms("-5 STUCK: it can't be as things stand.");
        s.refuses(some, STUCK, "walk", 0, 2);
        s.refuses(WhoOpensOne::new, STUCK, "back");

        s.terms("-6 FULL.");
        s.refuses(TermsOfTellingAndDraws::crowded, FULL, "door", 0, 1, 2);
        s.refuses(TermsOfTellingAndDraws::crowded, FULL, "one", 1);
        s.refuses(TermsOfTellingAndDraws::crowded, FULL, "feed", 0, 2);
    }
}
