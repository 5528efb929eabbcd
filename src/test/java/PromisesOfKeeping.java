/** Promises 44 to 46: what is kept and comes back, the status; and that an object lasts for its 512 calls. */
final class PromisesOfKeeping {
    private static final int NONE = Sentences.NONE;
    private static final int STUCK = Sentences.STUCK;

    private PromisesOfKeeping() {
    }

    static void tryAll(Sentences s) {
        image(s);
        back(s);
        status(s);
        refusalsInStatus(s);
        calls(s);
    }

    private static WhoOpensOne kept() {
        WhoOpensOne x = Sentences.house("door 0 1 2 open; door 0 1 3 open; door 2 1 0; one 1; one 3; law 2; wind 7");
        x.open(0, 2, 3);
        x.seed(55);
        x.row(0, 0, 3);
        x.show(1, 2);
        Sentences.feed(x, "law 3");
        x.where(9);
        x.image();
        return x;
    }

    private static void changeAll(WhoOpensOne x) {
        x.stand(0, true);
        x.walk(0, 2);
        x.move(1, 7);
        x.door(3, 4, 5);
        x.one(6);
        x.ask(0, 1);
        x.ask(1, 8);
        x.seed(66);
        x.evening(9);
    }

    private static void image(Sentences s) {
        s.promise(44, "All is kept, but THE TAPE, SHELVES and REFUSALS in status(): 1.");
        WhoOpensOne x = kept();
        s.due(x, 1, "image");
        changeAll(x);
        s.due(x, 1, "row", 0, 2, 1);
        s.due(x, 1, "row", 5, 4, 1);
        s.due(x, 1, "show", 1, NONE);
        s.due(x, 6, "feed", ';', 1);
        s.due(x, -2, "where", 9);
        s.due(x, 1, "back");
        int[] due = {3, 1, 2, 2, 7, 1, 6, 55, 2};
        for (int what = 0; what <= 8; what++) {
            s.due(x, due[what], "status", what);
        }
        s.due(x, 4, "doors", 0, 0);
        s.due(x, 1, "where", 0);
        s.due(x, 3, "where", 1);
        int[][] doors = {{0, 1, 2}, {0, 1, 3}, {2, 1, 0}};
        for (int d = 0; d < 3; d++) {
            for (int what = 0; what < 3; what++) {
                s.due(x, doors[d][what], "doorOf", d, what);
            }
        }
        s.due(x, 2, "holds", 0);
        s.due(x, NONE, "holds", 1);
        s.due(x, 4, "holds", 5);
        s.due(x, 2, "status", 12);
        s.due(x, 6, "wipe");
        // A later image takes the place of the earlier one.
        s.due(x, 3, "door", 5, 6, 7);
        s.due(x, 1, "image");
        s.due(x, 4, "door", 0, 6, 7);
        s.due(x, 1, "back");
        s.due(x, 4, "status", 0);
        s.due(x, 5, "doorOf", 3, 0);
    }

    private static void back(Sentences s) {
        s.promise(45, "All is again as it was kept (SHELVES with DOORS hold those of the same numbers, or NOTHING): 1.");
        WhoOpensOne x = kept();
        changeAll(x);
        for (int i = 0; i < 8; i++) {
            s.due(x, 1, "show", i, 3);
        }
        s.due(x, 1, "back");
        s.due(x, 0, "status", 8);
        changeAll(x);
        for (int i = 0; i < 8; i++) {
            s.due(x, 1, "show", i, i % 4);
        }
        s.due(x, 8, "status", 8);
        s.due(x, 1, "back");
        for (int i = 0; i < 8; i++) {
            s.due(x, i % 4 == 3 ? NONE : 10 + i % 4, "holds", i);
        }
        s.due(x, 6, "status", 8);
        s.due(x, 3, "door", 5, 4, 6);
        s.due(x, NONE, "holds", 3);
        s.due(x, 1, "says", 2, 2);
        s.due(x, 1, "back");
        s.due(x, 3, "status", 0);
        s.due(x, 12, "holds", 2);
        s.due(x, 1, "row", 0, 3, 2);
        s.due(x, 1, "set", 0, 1, 99);
        s.due(x, 1, "back");
        s.due(x, 99, "element", 0, 1);
        // Doors and people that are no more leave nothing behind for those who have their numbers next.
        x = Sentences.house("one 1");
        s.due(x, 1, "image");
        for (int kind : new int[] {2, 1, 5, 0, 4, 2, 3, 1}) {
            s.due(x, 0, "door", kind, 1, 2);
            s.due(x, 1, "door", 0, 1, 0);
            s.due(x, 1, "stand", 0, 1);
            s.due(x, 1, "one", 2);
            s.due(x, kind == 2 ? 1 : NONE, "coming", 0, 0);
            s.due(x, kind == 2 ? 2 : kind == 4 || kind == 5 ? 0 : 1, "stock");
            s.due(x, 1, "back");
            s.due(x, 0, "status", 0);
            s.due(x, 0, "status", 1);
            s.due(x, 1, "status", 2);
        }
        s.promise(45, "STUCK: nothing was.");
        s.refuses(WhoOpensOne::new, STUCK, "back");
        s.refuses(() -> Sentences.house("door 0 1 2 open; one 1; law 3"), STUCK, "back");
    }

    private static void status(Sentences s) {
        s.promise(46, "DOORS (0), OPEN ones (1), PEOPLE (2), L (3), WIND (4), OPENINGS in all (5; by open() and evenings), "
                + "THE TAPE's size (6), SEED (7), SHELVES that hold something (8);");
        WhoOpensOne x = Sentences.house("door 1 1 1 open; door 1 1 1; door 5 1 2 open; door 0 3 4 open; door 0 3 4; door 0 3 4; "
                + "one 1; law 1; wind 99");
        x.open(0, 1, 1);
        x.open(0, 0, 2);
        x.show(7, 0);
        x.row(0, 0, 0);
        x.row(3, 4, 40);
        x.seed(-123456);
        Sentences.feed(x, "what it was");
        int[] due = {6, 3, 1, 1, 99, 2, 11, -123456, 3};
        for (int what = 0; what <= 8; what++) {
            s.due(x, due[what], "status", what);
        }
        long openings = 2 + s.call(x, "evening", 60);
        s.due(x, openings, "status", 5);
        s.same("there were some", openings > 2, true);
        s.call(x, "night");
        s.call(x, "stand", 0, 0);
        s.call(x, "stand", 0, 1);
        s.call(x, "shut", 0, 0);
        s.call(x, "walk", 0, 2);
        s.call(x, "open", 0, 0, 1);
        s.due(x, openings, "status", 5);

        s.promise(46, "NONE another what.");
        x = kept();
        for (int what : new int[] {-1, -2, 9, 10, 11, 17, 18, 100, Integer.MIN_VALUE, Integer.MAX_VALUE}) {
            s.due(x, NONE, "status", what);
        }
        s.due(x, 1, "status", 12);
        for (int what = 13; what <= 16; what++) {
            s.due(x, 0, "status", what);
        }
    }

    private static void refusalsInStatus(Sentences s) {
        s.promise(46, "12 to 16: REFUSALS -2 to -6.");
        WhoOpensOne x = Sentences.house("door 0 1 2; one 1; one 1; one 1; one 1");
        s.due(x, 1, "show", 0, 0);
        s.due(x, -2, "where", 4);
        s.due(x, -1000002, "worth", 1);
        s.due(x, -20, "house");
        s.due(x, -3, "set", 0, 0, 0);
        s.due(x, -3, "says", 0, 1);
        s.due(x, -3, "judge", 0, 0);
        s.due(x, -3, "errands", 0, 0, 0);
        s.due(x, -4, "set", 1, 0, 0);
        s.due(x, -4, "says", 1, 1);
        s.due(x, -5, "walk", 0, 0);
        s.due(x, -1000005, "worth", 0);
        s.due(x, -5, "back");
        s.due(x, -5, "spare");
        s.due(x, -5, "ways", 0, 0, 1);
        s.due(x, -6, "one", 0);
        int[] due = {3, 4, 2, 5, 1};
        for (int i = 0; i < 5; i++) {
            s.due(x, due[i], "status", 12 + i);
        }
        s.due(x, 1, "image");
        s.due(x, -6, "one", 0);
        s.due(x, 1, "back");
        s.due(x, 2, "status", 16);
    }

    private static void calls(Sentences s) {
        s.begin("What it is", "An object is used for at most 512 calls after it has been made; what later calls answer is free.");
        WhoOpensOne x = new WhoOpensOne();
        for (int d = 0; d < 9; d++) {
            s.due(x, d, "door", d < 7 ? 2 : 1, d < 7 ? d + 1 : 5, (d + 2) % 8);
        }
        s.due(x, 1, "stand", 0, 1);
        s.due(x, 0, "one", 1);
        s.due(x, 1, "row", 0, 0, 4);
        int[] goals = {7, 1, 0, 1};
        for (int i = 0; i < 4; i++) {
            s.due(x, 1, "set", 0, i, goals[i]);
        }
        for (int i = 16; i < 512; i += 4) {
            s.due(x, 22, "errands", 0, 0, 4);
            s.due(x, 6, "coming", 0, 0);
            s.due(x, 255, "all", 0);
            s.due(x, i < 508 ? NONE : 1, "first", 0, i < 508 ? 1 : 0);
        }
    }
}
