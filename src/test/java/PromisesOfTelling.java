import java.util.function.Supplier;

/** Promises 39 to 43: told acts judged, evenings, nights, the seed. */
final class PromisesOfTelling {
    private static final int NONE = Sentences.NONE;
    private static final int BAD = Sentences.BAD;
    private static final int OTHER = Sentences.OTHER;
    private static final int NOTHING = Sentences.NOTHING;
    private static final int STUCK = Sentences.STUCK;

    private PromisesOfTelling() {
    }

    static void tryAll(Sentences s) {
        judge(s);
        told(s);
        toldRefused(s);
        evening(s);
        night(s);
        seed(s);
    }

    private static long act(long what, long one, long door, long set) {
        return TermsOfTellingAndDraws.act(what, one, door, set);
    }

    /**
     * Shelf 0 has 21 acts: nothing, a walk to 2 and back, door 2 opened by 0 and 1, a walk out, door 2 shut, then walks that
     * may not be. Shelf 1 has three bytes, 2 a door, 3 nothing, 4 twenty times nothing to do, 5 one act that may not be.
     */
    private static WhoOpensOne acted() {
        WhoOpensOne x = Sentences.house("door 0 1 2 open; door 0 1 3 open; door 0 1 0; one 1; one 3");
        long[] acts = {act(3, 3, 15, 65535), act(0, 0, 0, 65535), act(0, 0, 0, 0) | 7L << 24, act(1, 0, 2, 3), act(0, 0, 2, 0),
            act(2, 0, 2, 9) | Long.MIN_VALUE};
        x.row(0, 3, 21);
        x.row(1, 0, 3);
        x.show(2, 0);
        x.row(4, 2, 20);
        x.row(5, 2, 1);
        for (int i = 0; i < 21; i++) {
            x.set(0, i, i < acts.length ? acts[i] : 0);
            if (i < 20) {
                x.set(4, i, act(3, 0, 0, 0));
            }
        }
        x.set(5, 0, act(0, 0, 2, 0));
        return x;
    }

    private static final Supplier<WhoOpensOne> SOME = PromisesOfTelling::acted;

    private static void judge(Sentences s) {
        s.promise(39, "Where the first n elements (0 to 20) of the ROW in SHELF s, ACTS, are WRONG; NONE.");
        WhoOpensOne x = acted();
        for (int n = 0; n <= 20; n++) {
            s.due(x, n <= 6 ? NONE : 6, "judge", 0, n);
            s.due(x, NONE, "judge", 4, n);
        }
        s.due(x, 0, "judge", 5, 1);
        s.due(x, NONE, "judge", 5, 0);
        s.due(x, 1, "set", 4, 19, 0);
        s.due(x, NONE, "judge", 4, 20);
        s.due(x, 1, "set", 4, 19, act(0, 2, 0, 0));
        s.due(x, 19, "judge", 4, 20);
        s.due(x, NONE, "judge", 4, 19);
        // Of bytes the numbers -1 and 3: all bits are set, which is nothing done; else one walks through 0.
        s.due(x, 1, "set", 1, 0, -1);
        s.due(x, 1, "set", 1, 1, 3);
        s.due(x, NONE, "judge", 1, 3);
        s.due(x, 3, "doors", 0, 0);
        s.due(x, 1, "where", 0);
        s.due(x, 0, "status", 5);
        s.promise(39, "BAD SHELF, n; OTHER; NOTHING; BAD: fewer elements.");
        s.refuses(SOME, BAD, "judge", 8, 0);
        s.refuses(SOME, BAD, "judge", -1, 0);
        s.refuses(SOME, BAD, "judge", 0, 21);
        s.refuses(SOME, BAD, "judge", 0, -1);
        s.refuses(SOME, BAD, "judge", 2, 21);
        s.refuses(SOME, BAD, "judge", 3, -1);
        s.refuses(SOME, OTHER, "judge", 2, 0);
        s.refuses(SOME, OTHER, "judge", 2, 20);
        s.refuses(SOME, NOTHING, "judge", 3, 0);
        s.refuses(SOME, NOTHING, "judge", 3, 20);
        s.refuses(SOME, BAD, "judge", 1, 4);
        s.refuses(SOME, BAD, "judge", 5, 2);
        for (int far : Sentences.FAR) {
            s.refuses(SOME, BAD, "judge", far, 0);
            s.refuses(SOME, BAD, "judge", 0, far);
        }
    }

    private static void told(Sentences s) {
        s.promise(40, "OPEN DOORS (bits) behind them (what 0), the ROOM of one (10 and the one), OPENINGS in them (1), "
                + "PEOPLE who would be SHUT IN (2).");
        WhoOpensOne x = acted();
        int[] open = {3, 3, 3, 3, 4, 4, 0};
        int[] room = {1, 1, 2, 1, 1, 0, 0};
        int[] shutIn = {3, 3, 3, 3, 2, 2, 2};
        for (int n = 0; n <= 6; n++) {
            s.due(x, open[n], "told", 0, n, 0);
            s.due(x, n < 4 ? 0 : 1, "told", 0, n, 1);
            s.due(x, shutIn[n], "told", 0, n, 2);
            s.due(x, room[n], "told", 0, n, 10);
            s.due(x, 3, "told", 0, n, 11);
        }
        s.due(x, 3, "doors", 0, 0);
        s.due(x, 1, "where", 0);
        s.due(x, 0, "status", 5);
        s.due(x, 1, "open", 0, 2, 3);
        s.due(x, 1, "status", 5);
        s.due(x, 0, "told", 4, 20, 1);
        s.due(x, 0, "told", 5, 1, 10);
        WhoOpensOne four = Sentences.house("one 4; one 5; one 6; one 0");
        s.due(four, 1, "row", 0, 0, 0);
        for (int p = 0; p < 4; p++) {
            s.due(four, (4 + p) % 7, "told", 0, 0, 10 + p);
        }
        s.due(four, 7, "told", 0, 0, 2);
    }

    private static void toldRefused(Sentences s) {
        s.promise(40, "BAD; OTHER; NOTHING; BAD likewise; STUCK: they are WRONG.");
        for (int what : new int[] {-1, 3, 9, 12, 14, Integer.MIN_VALUE, Integer.MAX_VALUE}) {
            s.refuses(SOME, BAD, "told", 0, 0, what);
            s.refuses(SOME, BAD, "told", 0, 20, what);
            s.refuses(SOME, BAD, "told", 2, 0, what);
            s.refuses(SOME, BAD, "told", 3, 0, what);
        }
        s.refuses(SOME, BAD, "told", 8, 0, 0);
        s.refuses(SOME, BAD, "told", -1, 0, 0);
        s.refuses(SOME, BAD, "told", 0, 21, 0);
        s.refuses(SOME, BAD, "told", 0, -1, 0);
        s.refuses(SOME, BAD, "told", 2, 21, 0);
        s.refuses(SOME, BAD, "told", 3, -1, 0);
        s.refuses(SOME, OTHER, "told", 2, 0, 0);
        s.refuses(SOME, OTHER, "told", 2, 20, 10);
        s.refuses(SOME, NOTHING, "told", 3, 0, 0);
        s.refuses(SOME, NOTHING, "told", 3, 20, 10);
        s.refuses(SOME, BAD, "told", 1, 4, 0);
        s.refuses(SOME, BAD, "told", 5, 2, 0);
        for (int what : new int[] {0, 1, 2, 10, 11}) {
            s.refuses(SOME, STUCK, "told", 0, 7, what);
            s.refuses(SOME, STUCK, "told", 5, 1, what);
        }
        for (int far : Sentences.FAR) {
            s.refuses(SOME, BAD, "told", far, 0, 0);
            s.refuses(SOME, BAD, "told", 0, far, 0);
        }
        s.refuses(() -> {
            WhoOpensOne x = new WhoOpensOne();
            x.row(0, 0, 0);
            return x;
        }, BAD, "told", 0, 0, 10);
    }

    private static void evening(Sentences s) {
        s.promise(41, "An EVENING IN TRUTH: n times (1 to 60): how many OPENINGS.");
        // With one of the people and law 1 the two doors open each other whenever the shut one is drawn.
        WhoOpensOne x = Sentences.house("door 1 1 1 open; door 1 1 1; one 1; law 1");
        int seed = 1;
        int open = 0;
        int all = 0;
        for (int n : new int[] {1, 2, 59, 60}) {
            int openings = 0;
            for (int i = 0; i < n; i++) {
                seed = TermsOfTellingAndDraws.next(seed);
                int door = TermsOfTellingAndDraws.drawn(seed, 2);
                seed = TermsOfTellingAndDraws.next(seed);
                openings += door == open ? 0 : 1;
                open = door;
            }
            all += openings;
            s.due(x, openings, "evening", n);
            s.due(x, 1 << open, "doors", 0, 0);
            s.due(x, seed, "status", 7);
            s.due(x, all, "status", 5);
        }
        s.promise(41, "BAD; STUCK: no DOORS, no PEOPLE.");
        s.refuses(SOME, BAD, "evening", 0);
        s.refuses(SOME, BAD, "evening", 61);
        s.refuses(SOME, BAD, "evening", -1);
        s.refuses(WhoOpensOne::new, BAD, "evening", 0);
        s.refuses(WhoOpensOne::new, BAD, "evening", 61);
        s.refuses(WhoOpensOne::new, STUCK, "evening", 1);
        s.refuses(() -> Sentences.house("one 0"), STUCK, "evening", 60);
        s.refuses(() -> Sentences.house("door 0 0 1 open"), STUCK, "evening", 60);
        for (int far : Sentences.FAR) {
            s.refuses(SOME, BAD, "evening", far);
        }
    }

    private static void night(Sentences s) {
        s.promise(42, "A NIGHT: how many DOORS the WIND opened.");
        WhoOpensOne x = TermsOfWhatCanBe.mixture(2, 0, 2, 3, 5, 0, 9);
        s.due(x, 0, "ask", 1, 99);
        int opened = 0;
        int seed = 1;
        for (int d = 2; d < 14; d++) {
            opened += TermsOfTellingAndDraws.drawn(seed, 100) < 99 ? 1 : 0;
            seed = TermsOfTellingAndDraws.next(seed);
        }
        s.due(x, opened, "night");
        s.due(x, 2 + opened, "status", 1);
        s.due(x, 0, "status", 5);
        s.due(x, seed, "status", 7);
        s.due(new WhoOpensOne(), 0, "night");
        x = TermsOfWhatCanBe.mixture(2, 0, 3, 0);
        s.due(x, 0, "ask", 1, 99);
        s.due(x, 0, "night");
        s.due(x, 1, "status", 7);
        x = TermsOfWhatCanBe.mixture(2, 0, 0, 3);
        s.call(x, "seed", 0);
        s.due(x, 0, "night");
        s.due(x, 0, "doors", 0, 0);
    }

    private static void seed(Sentences s) {
        s.promise(43, "SEED becomes v: the one ahead.");
        WhoOpensOne x = new WhoOpensOne();
        int was = 1;
        for (int v : new int[] {0, -1, Integer.MIN_VALUE, Integer.MAX_VALUE, 42, 42}) {
            s.due(x, was, "seed", v);
            s.due(x, v, "status", 7);
            was = v;
        }
    }
}
