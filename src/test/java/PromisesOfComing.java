import java.util.function.Supplier;

/** Promises 28 to 32: the fewest openings to a room, all rooms, the first opening, errands, who is lost. */
final class PromisesOfComing {
    private static final int NONE = Sentences.NONE;
    private static final int BAD = Sentences.BAD;
    private static final int OTHER = Sentences.OTHER;
    private static final int NOTHING = Sentences.NOTHING;
    private static final int STUCK = Sentences.STUCK;

    /** One in 1 shuts 0 and 1 to open 2, the way out to 0; there is no way to 7. */
    private static final String PLAIN = "door 0 1 2 open; door 0 1 3 open; door 0 1 0; one 1; one 7";

    private PromisesOfComing() {
    }

    static void tryAll(Sentences s) {
        coming(s);
        all(s);
        first(s);
        errands(s);
        errandsRefused(s);
        lost(s);
    }

    private static WhoOpensOne some() {
        return TermsOfTellingAndDraws.furnished();
    }

    /** Ten doors; shelf 0 has three rooms, 1 forty numbers, 2 a door, 3 nothing; the last row has no room in it. */
    private static WhoOpensOne ten() {
        WhoOpensOne x = some();
        for (int d = 0; d < 4; d++) {
            x.door(1, 7, 7);
        }
        x.row(4, 3, 1);
        x.set(4, 0, 8);
        return x;
    }

    private static final Supplier<WhoOpensOne> SOME = PromisesOfComing::some;
    private static final Supplier<WhoOpensOne> TEN = PromisesOfComing::ten;

    private static void coming(Sentences s) {
        s.promise(28, "COMING of one to a ROOM: OPENINGS; NONE: they can't.");
        WhoOpensOne x = Sentences.house(PLAIN);
        int[] due = {1, 0, 0, 0, NONE, NONE, NONE, NONE};
        for (int room = 0; room < 8; room++) {
            s.due(x, due[room], "coming", 0, room);
            s.due(x, room == 7 ? 0 : NONE, "coming", 1, room);
        }
        s.due(x, 3, "doors", 0, 0);
        s.due(x, 1, "where", 0);
        s.due(x, 0, "status", 5);
        s.due(x, 0, "status", 15);
        s.due(x, 2, "ask", 0, 3);
        s.due(x, NONE, "coming", 0, 0);
        s.promise(28, "BAD; STUCK: more than 9 DOORS.");
        s.refuses(SOME, BAD, "coming", 2, 0);
        s.refuses(SOME, BAD, "coming", -1, 0);
        s.refuses(SOME, BAD, "coming", 0, 8);
        s.refuses(SOME, BAD, "coming", 0, -1);
        s.refuses(TEN, STUCK, "coming", 0, 0);
        s.refuses(TEN, STUCK, "coming", 0, 1);
        s.refuses(TEN, BAD, "coming", 2, 0);
        s.refuses(TEN, BAD, "coming", 0, 8);
        for (int far : Sentences.FAR) {
            s.refuses(SOME, BAD, "coming", far, 0);
            s.refuses(SOME, BAD, "coming", 0, far);
        }
        s.due(TermsOfWhatCanBe.chainOf(9), 6, "coming", 0, 0);
        s.due(TermsOfWhatCanBe.chainOf(10), STUCK, "coming", 0, 0);
        s.due(Sentences.house("one 3"), 0, "coming", 0, 3);
        s.due(Sentences.house("one 3"), NONE, "coming", 0, 0);
    }

    private static void all(Sentences s) {
        s.promise(29, "ROOMS (bits) to which one can come so at all.");
        WhoOpensOne x = Sentences.house(PLAIN);
        s.due(x, 15, "all", 0);
        s.due(x, 128, "all", 1);
        s.due(x, 2, "ask", 0, 3);
        s.due(x, 14, "all", 0);
        s.due(Sentences.house(TermsOfWhatCanBe.CHAIN), 255, "all", 0);
        x = Sentences.house(TermsOfWhatCanBe.CHAIN);
        TermsOfWhatCanBe.setRow(s, x, 0, 1, 1, 1, 1);
        s.due(x, 0, "errands", 0, 0, 4);
        s.due(x, 255, "all", 0);
        s.due(Sentences.house("one 5"), 32, "all", 0);
        s.due(Sentences.house("door 3 0 1; door 1 1 1 open; door 1 1 1 open; one 1; one 0"), 2, "all", 0);
        s.due(Sentences.house("door 3 0 1; door 1 1 1 open; door 1 1 1 open; one 1; one 0"), 3, "all", 1);
        s.promise(29, "BAD; STUCK likewise.");
        s.refuses(SOME, BAD, "all", 2);
        s.refuses(SOME, BAD, "all", -1);
        s.refuses(TEN, STUCK, "all", 0);
        s.refuses(TEN, BAD, "all", 2);
        for (int far : Sentences.FAR) {
            s.refuses(SOME, BAD, "all", far);
        }
        s.due(TermsOfWhatCanBe.chainOf(9), 255, "all", 0);
        s.due(TermsOfWhatCanBe.chainOf(10), STUCK, "all", 0);
    }

    private static void first(Sentences s) {
        s.promise(30, "The first OPENING of a row of fewest by which one comes to a ROOM: of several the least DOOR;");
        s.due(Sentences.house(PLAIN), 2, "first", 0, 0);
        WhoOpensOne x = Sentences.house(TermsOfWhatCanBe.CHAIN);
        for (int room = 3; room < 8; room++) {
            s.due(x, 1, "first", 0, room);
        }
        x = Sentences.house("law 1; one 1; door 0 1 2; door 0 1 0; door 0 1 3 open; door 0 0 1; door 0 2 0");
        s.due(x, 1, "first", 0, 0);
        s.due(x, 0, "first", 0, 2);
        s.due(x, 1, "first", 0, 0);
        // Both bolts must be opened, in either order, and then be shut together to open the way out.
        x = Sentences.house("door 3 2 3; door 3 1 3; door 0 3 0; door 1 1 1 open; door 1 1 1 open; door 1 2 2 open; door 1 2 2 open;"
                + "door 5 1 2 open; door 5 2 3 open; one 1");
        s.due(x, 3, "coming", 0, 0);
        s.due(x, 0, "first", 0, 0);
        // The same with the numbers of the bolts changed: the least is the other one.
        x = Sentences.house("door 3 1 3; door 3 2 3; door 0 3 0; door 1 1 1 open; door 1 1 1 open; door 1 2 2 open; door 1 2 2 open;"
                + "door 5 1 2 open; door 5 2 3 open; one 1");
        s.due(x, 0, "first", 0, 0);
        // By 3 and 4 it would be three openings, by 2 two; the first of those two is no least number.
        x = Sentences.house("law 1; one 1; door 0 4 0; door 0 3 4; door 0 1 3; door 0 1 2; door 0 2 0; door 1 1 1 open");
        s.due(x, 2, "coming", 0, 0);
        s.due(x, 3, "first", 0, 0);

        s.promise(30, "NONE: none is needed, or they can't.");
        x = Sentences.house(PLAIN);
        s.due(x, NONE, "first", 0, 1);
        s.due(x, NONE, "first", 0, 3);
        s.due(x, NONE, "first", 0, 7);
        s.due(x, NONE, "first", 1, 7);
        s.due(x, NONE, "first", 1, 0);
        s.due(x, 0, "status", 12);
        s.due(x, 0, "status", 15);
        s.promise(30, "BAD; STUCK likewise.");
        s.refuses(SOME, BAD, "first", 2, 0);
        s.refuses(SOME, BAD, "first", -1, 0);
        s.refuses(SOME, BAD, "first", 0, 8);
        s.refuses(SOME, BAD, "first", 0, -1);
        s.refuses(TEN, STUCK, "first", 0, 0);
        s.refuses(TEN, STUCK, "first", 0, 1);
        s.refuses(TEN, BAD, "first", 0, 8);
        s.refuses(TEN, BAD, "first", 2, 0);
        for (int far : Sentences.FAR) {
            s.refuses(SOME, BAD, "first", far, 0);
            s.refuses(SOME, BAD, "first", 0, far);
        }
        s.due(TermsOfWhatCanBe.chainOf(9), 1, "first", 0, 0);
        s.due(TermsOfWhatCanBe.chainOf(10), STUCK, "first", 0, 0);
    }

    private static void errands(Sentences s) {
        s.promise(31, "ERRANDS of one through the first n elements (0 to 4) of the ROW in SHELF s: OPENINGS;");
        WhoOpensOne x = Sentences.house(PLAIN);
        TermsOfWhatCanBe.setRow(s, x, 7, 2, 3, 0, 1, 7);
        int[] due = {0, 0, 0, 1, 1};
        for (int n = 0; n <= 4; n++) {
            s.due(x, due[n], "errands", 0, 7, n);
        }
        s.due(x, 0, "status", 5);
        s.due(x, 3, "doors", 0, 0);
        for (int sort = 0; sort < 5; sort++) {
            s.call(x, "row", sort, sort, 40);
            s.call(x, "set", sort, 0, 1);
            s.due(x, 1, "errands", 0, sort, 4);
        }
        s.promise(31, "NONE: it can't be (also one that is no ROOM).");
        for (long no : new long[] {7, 8, -1, 1L << 32, Long.MIN_VALUE, Long.MAX_VALUE, 1L << 32 | 1}) {
            for (int place = 0; place < 4; place++) {
                long[] rooms = {1, 2, 1, 2};
                rooms[place] = no;
                TermsOfWhatCanBe.setRow(s, x, 7, rooms);
                s.due(x, place == 3 ? 0 : NONE, "errands", 0, 7, 3);
                s.due(x, NONE, "errands", 0, 7, 4);
            }
        }
        TermsOfWhatCanBe.setRow(s, x, 7, 0, 3);
        s.due(x, NONE, "errands", 0, 7, 2);
        s.due(x, 0, "status", 12);
        s.due(x, 0, "status", 15);
    }

    private static void errandsRefused(Sentences s) {
        s.promise(31, "BAD ONE, SHELF, n; OTHER; NOTHING; BAD: fewer elements; STUCK likewise.");
        s.refuses(SOME, BAD, "errands", 2, 0, 1);
        s.refuses(SOME, BAD, "errands", -1, 0, 1);
        s.refuses(SOME, BAD, "errands", 0, 8, 1);
        s.refuses(SOME, BAD, "errands", 0, -1, 1);
        s.refuses(SOME, BAD, "errands", 0, 1, 5);
        s.refuses(SOME, BAD, "errands", 0, 1, -1);
        s.refuses(SOME, BAD, "errands", 2, 2, 1);
        s.refuses(SOME, BAD, "errands", 2, 3, 1);
        s.refuses(SOME, BAD, "errands", 0, 2, 5);
        s.refuses(SOME, BAD, "errands", 0, 3, 5);
        s.refuses(SOME, OTHER, "errands", 0, 2, 0);
        s.refuses(SOME, OTHER, "errands", 0, 2, 4);
        s.refuses(SOME, NOTHING, "errands", 0, 3, 0);
        s.refuses(SOME, NOTHING, "errands", 0, 3, 4);
        s.refuses(SOME, BAD, "errands", 0, 0, 4);
        s.refuses(TEN, BAD, "errands", 2, 0, 1);
        s.refuses(TEN, BAD, "errands", 0, 8, 1);
        s.refuses(TEN, BAD, "errands", 0, 0, 5);
        s.refuses(TEN, OTHER, "errands", 0, 2, 1);
        s.refuses(TEN, NOTHING, "errands", 0, 3, 1);
        s.refuses(TEN, BAD, "errands", 0, 0, 4);
        s.refuses(TEN, STUCK, "errands", 0, 0, 3);
        s.refuses(TEN, STUCK, "errands", 0, 0, 0);
        s.refuses(TEN, STUCK, "errands", 0, 4, 1);
        for (int far : Sentences.FAR) {
            s.refuses(SOME, BAD, "errands", far, 0, 1);
            s.refuses(SOME, BAD, "errands", 0, far, 1);
            s.refuses(SOME, BAD, "errands", 0, 0, far);
        }
    }

    private static void lost(Sentences s) {
        s.promise(32, "PEOPLE (bits) who can't come OUT so, each alone.");
        WhoOpensOne x = Sentences.house(PLAIN + "; one 0; one 3");
        s.due(x, 2, "lost");
        s.due(x, 2, "ask", 0, 3);
        s.due(x, 11, "lost");
        s.due(x, 3, "doors", 0, 0);
        s.due(new WhoOpensOne(), 0, "lost");
        s.due(Sentences.house("one 1"), 1, "lost");
        // Both could be out only one after the other: each alone can.
        x = Sentences.house("door 2 1 2 open; door 0 1 0; door 0 2 0; one 1; one 2");
        s.due(x, 0, "lost");
        // Who is behind the bolt can't open it, though another could for them.
        x = Sentences.house("door 3 0 1; door 1 1 1 open; door 1 1 1 open; one 1; one 0");
        s.due(x, 1, "lost");
        s.promise(32, "STUCK likewise.");
        s.refuses(TEN, STUCK, "lost");
        s.due(TermsOfWhatCanBe.chainOf(9), 0, "lost");
        s.due(TermsOfWhatCanBe.chainOf(10), STUCK, "lost");
        s.refuses(() -> TermsOfWhatCanBe.mixture(2, 0, 5, 5), STUCK, "lost");
    }
}
