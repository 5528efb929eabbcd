import java.util.function.Supplier;

/** Promises 1 to 8: a new object, rows, copying, what shelves hold and what doors in them say. */
final class PromisesOfShelves {
    private static final int NONE = Sentences.NONE;
    private static final int BAD = Sentences.BAD;
    private static final int OTHER = Sentences.OTHER;
    private static final int NOTHING = Sentences.NOTHING;

    private PromisesOfShelves() {
    }

    static void tryAll(Sentences s) {
        newObject(s);
        rows(s);
        setting(s);
        copying(s);
        copyRefused(s);
        elements(s);
        holding(s);
        showing(s);
        saying(s);
    }

    /** Shelves 0 and 1 ints of 5 and 3, 2 shorts, 3 no elements, 4 a door, 5 to 7 nothing. */
    private static WhoOpensOne shelved() {
        WhoOpensOne x = Sentences.house("door 2 1 2 open; one 1");
        x.row(0, 2, 5);
        x.row(1, 2, 3);
        x.row(2, 1, 5);
        x.row(3, 2, 0);
        x.show(4, 0);
        for (int i = 0; i < 5; i++) {
            x.set(0, i, 10 + i);
            x.set(1, i % 3, 20 + i % 3);
            x.set(2, i, 30 + i);
        }
        return x;
    }

    private static void newObject(Sentences s) {
        s.promise(1, "No DOORS, no PEOPLE; SHELVES hold NOTHING; THE TAPE is empty.");
        WhoOpensOne x = new WhoOpensOne();
        s.due(x, 0, "status", 0);
        s.due(x, 0, "status", 1);
        s.due(x, 0, "status", 2);
        s.due(x, 0, "status", 5);
        s.due(x, 0, "status", 6);
        s.due(x, 0, "status", 8);
        for (int i = 0; i < 8; i++) {
            s.due(x, NONE, "holds", i);
        }
        for (int what = 12; what <= 16; what++) {
            s.due(x, 0, "status", what);
        }
        s.due(x, BAD, "doorOf", 0, 0);
        s.due(x, BAD, "where", 0);
        s.due(x, 0, "wipe");
        s.due(x, Sentences.STUCK, "back");
        WhoOpensOne other = new WhoOpensOne();
        s.due(other, 0, "door", 0, 1, 2);
        s.due(other, 1, "row", 0, 0, 1);
        s.due(x, 0, "status", 0);
        s.due(x, NONE, "holds", 0);
    }

    private static void rows(Sentences s) {
        s.promise(2, "SHELF s holds a new ROW: 1.");
        WhoOpensOne x = shelved();
        s.due(x, 1, "row", 7, 4, 40);
        s.due(x, 4, "holds", 7);
        s.due(x, 1, "row", 0, 2, 5);
        s.due(x, 1, "row", 4, 0, 1);
        s.due(x, 0, "holds", 4);
        for (int i = 0; i < 5; i++) {
            s.due(x, 0, "element", 0, i);
        }
        s.due(x, 1, "row", 1, 2, 2);
        s.due(x, BAD, "set", 1, 2, 7);
        s.due(x, 1, "row", 1, 2, 4);
        s.due(x, 0, "element", 1, 2);
        s.due(x, 1, "set", 1, 3, 7);
        s.due(x, BAD, "set", 1, 4, 7);

        s.promise(2, "BAD.");
        Supplier<WhoOpensOne> some = PromisesOfShelves::shelved;
        s.refuses(some, BAD, "row", 8, 0, 1);
        s.refuses(some, BAD, "row", -1, 0, 1);
        s.refuses(some, BAD, "row", 0, 5, 1);
        s.refuses(some, BAD, "row", 0, -1, 1);
        s.refuses(some, BAD, "row", 0, 0, 41);
        s.refuses(some, BAD, "row", 0, 0, -1);
        for (int far : Sentences.FAR) {
            s.refuses(some, BAD, "row", far, 0, 1);
            s.refuses(some, BAD, "row", 0, far, 1);
            s.refuses(some, BAD, "row", 0, 0, far);
        }
    }

    private static void setting(Sentences s) {
        s.promise(3, "Element i of the ROW in SHELF s becomes v: 1.");
        WhoOpensOne x = shelved();
        s.due(x, 1, "set", 0, 0, -5);
        s.due(x, 1, "set", 0, 4, 1L << 40 | 9);
        int[] then = {-5, 11, 12, 13, 9};
        for (int i = 0; i < 5; i++) {
            s.due(x, then[i], "element", 0, i);
        }
        Supplier<WhoOpensOne> some = PromisesOfShelves::shelved;
        s.promise(3, "BAD SHELF; OTHER; NOTHING; BAD i.");
        s.refuses(some, BAD, "set", 8, 0, 1);
        s.refuses(some, BAD, "set", -1, 0, 1);
        s.refuses(some, OTHER, "set", 4, 0, 1);
        s.refuses(some, OTHER, "set", 4, -1, 1);
        s.refuses(some, NOTHING, "set", 5, 0, 1);
        s.refuses(some, NOTHING, "set", 5, 40, 1);
        s.refuses(some, BAD, "set", 0, 5, 1);
        s.refuses(some, BAD, "set", 0, -1, 1);
        s.refuses(some, BAD, "set", 3, 0, 1);
        for (int far : Sentences.FAR) {
            s.refuses(some, BAD, "set", far, 0, 1);
            s.refuses(some, BAD, "set", 0, far, 1);
        }
    }

    private static void sameRow(Sentences s, WhoOpensOne x, int shelf, int... elements) {
        for (int i = 0; i < elements.length; i++) {
            s.due(x, elements[i], "element", shelf, i);
        }
    }

    private static void copying(Sentences s) {
        s.promise(4, "n elements of the ROW in SHELF p from place i on come to places j on of that in q (as they were): n.");
        WhoOpensOne x = shelved();
        s.due(x, 2, "copy", 0, 1, 3, 1, 2);
        sameRow(s, x, 1, 20, 13, 14);
        sameRow(s, x, 0, 10, 11, 12, 13, 14);
        s.due(x, 3, "copy", 0, 1, 2, 0, 3);
        sameRow(s, x, 1, 12, 13, 14);
        s.due(x, 4, "copy", 0, 0, 0, 1, 4);
        sameRow(s, x, 0, 10, 10, 11, 12, 13);
        s.due(x, 3, "copy", 0, 0, 2, 0, 3);
        sameRow(s, x, 0, 11, 12, 13, 12, 13);
        s.due(x, 5, "copy", 0, 0, 0, 0, 5);
        sameRow(s, x, 0, 11, 12, 13, 12, 13);
        s.due(x, 0, "copy", 0, 1, 5, 3, 0);
        s.due(x, 0, "copy", 3, 3, 0, 0, 0);
        s.due(x, 0, "copy", 0, 3, 2, 0, 0);
        sameRow(s, x, 1, 12, 13, 14);
        for (int sort = 0; sort < 5; sort++) {
            s.due(x, 1, "row", 5, sort, 1);
            s.due(x, 1, "row", 6, sort, 40);
            s.due(x, 1, "set", 5, 0, -3);
            s.due(x, 1, "copy", 5, 6, 0, 39, 1);
            s.due(x, sort == 4 ? 1 : -3, "element", 6, 39);
        }
    }

    private static void copyRefused(Sentences s) {
        Supplier<WhoOpensOne> some = PromisesOfShelves::shelved;
        s.promise(4, "BAD SHELVES; OTHER (also ROWS of two SORTS, if both hold something); NOTHING; BAD the others.");
        s.refuses(some, BAD, "copy", 8, 0, 0, 0, 1);
        s.refuses(some, BAD, "copy", 0, 8, 0, 0, 1);
        s.refuses(some, BAD, "copy", -1, 4, 0, 0, 1);
        s.refuses(some, BAD, "copy", 4, -1, 0, 0, 1);
        s.refuses(some, BAD, "copy", 5, 8, 0, 0, 1);
        s.refuses(some, OTHER, "copy", 0, 4, 0, 0, 1);
        s.refuses(some, OTHER, "copy", 4, 0, 0, 0, 1);
        s.refuses(some, OTHER, "copy", 4, 4, 0, 0, 0);
        s.refuses(some, OTHER, "copy", 4, 5, 0, 0, 1);
        s.refuses(some, OTHER, "copy", 5, 4, 0, 0, 1);
        s.refuses(some, OTHER, "copy", 0, 2, 0, 0, 1);
        s.refuses(some, OTHER, "copy", 2, 0, 9, -9, 99);
        s.refuses(some, OTHER, "copy", 4, 0, 9, -9, 99);
        s.refuses(some, NOTHING, "copy", 0, 5, 0, 0, 1);
        s.refuses(some, NOTHING, "copy", 5, 0, 0, 0, 1);
        s.refuses(some, NOTHING, "copy", 5, 6, 9, -9, 99);
        s.refuses(some, NOTHING, "copy", 5, 5, 0, 0, 0);
        s.refuses(some, BAD, "copy", 0, 1, 3, 0, 3);
        s.refuses(some, BAD, "copy", 0, 1, 0, 1, 3);
        s.refuses(some, BAD, "copy", 1, 0, 0, 0, 4);
        s.refuses(some, BAD, "copy", 0, 1, -1, 0, 1);
        s.refuses(some, BAD, "copy", 0, 1, 0, -1, 1);
        s.refuses(some, BAD, "copy", 0, 1, 0, 0, -1);
        s.refuses(some, BAD, "copy", 0, 1, 6, 0, 0);
        s.refuses(some, BAD, "copy", 0, 1, 0, 4, 0);
        s.refuses(some, BAD, "copy", 0, 3, 0, 0, 1);
        for (int far : Sentences.FAR) {
            s.refuses(some, BAD, "copy", far, 0, 0, 0, 1);
            s.refuses(some, BAD, "copy", 0, far, 0, 0, 1);
            s.refuses(some, BAD, "copy", 0, 1, far, 0, 1);
            s.refuses(some, BAD, "copy", 0, 1, 0, far, 1);
            s.refuses(some, BAD, "copy", 0, 1, 1, 1, far);
        }
    }

    private static void elements(Sentences s) {
        s.promise(5, "Element i of the ROW; 0: none, no ROW (nothing is refused).");
        WhoOpensOne x = shelved();
        s.due(x, 10, "element", 0, 0);
        s.due(x, 14, "element", 0, 4);
        s.due(x, 0, "element", 0, 5);
        s.due(x, 0, "element", 0, -1);
        s.due(x, 0, "element", 1, 3);
        s.due(x, 0, "element", 3, 0);
        s.due(x, 0, "element", 4, 0);
        s.due(x, 0, "element", 5, 0);
        s.due(x, 0, "element", 8, 0);
        s.due(x, 0, "element", -1, 0);
        for (int far : Sentences.FAR) {
            s.due(x, 0, "element", far, 0);
            s.due(x, 0, "element", 0, far);
        }
        s.due(x, 1, "show", 0, 0);
        s.due(x, 0, "element", 0, 0);
        s.due(x, 1, "show", 1, NONE);
        s.due(x, 0, "element", 1, 0);
        for (int what = 12; what <= 16; what++) {
            s.due(x, 0, "status", what);
        }
    }

    private static void holding(Sentences s) {
        s.promise(6, "What SHELF s holds: NONE NOTHING, no SHELF; 0 to 4 a ROW by its SORT; 10 and the number of a DOOR.");
        WhoOpensOne x = new WhoOpensOne();
        for (int d = 0; d < 14; d++) {
            s.due(x, d, "door", 0, 1, 2);
        }
        for (int sort = 0; sort < 5; sort++) {
            s.due(x, 1, "row", sort, sort, sort);
            s.due(x, sort, "holds", sort);
        }
        for (int d = 0; d < 14; d++) {
            s.due(x, 1, "show", 7, d);
            s.due(x, 10 + d, "holds", 7);
        }
        s.due(x, NONE, "holds", 6);
        s.due(x, NONE, "holds", 8);
        s.due(x, NONE, "holds", -1);
        s.due(x, NONE, "holds", Integer.MIN_VALUE);
        s.due(x, NONE, "holds", Integer.MAX_VALUE);
        for (int what = 12; what <= 16; what++) {
            s.due(x, 0, "status", what);
        }
    }

    private static void showing(Sentences s) {
        s.promise(7, "SHELF s holds a DOOR, or NOTHING (door NONE): 1.");
        WhoOpensOne x = Sentences.house("door 0 1 2; door 2 1 2");
        s.due(x, 1, "show", 0, 0);
        s.due(x, 1, "show", 7, 1);
        s.due(x, 10, "holds", 0);
        s.due(x, 11, "holds", 7);
        s.due(x, 1, "show", 7, 0);
        s.due(x, 10, "holds", 7);
        s.due(x, 1, "show", 7, NONE);
        s.due(x, 1, "show", 7, NONE);
        s.due(x, NONE, "holds", 7);
        s.due(x, 1, "row", 3, 0, 9);
        s.due(x, 1, "show", 3, 1);
        s.due(x, 11, "holds", 3);
        s.due(x, 2, "says", 3, 0);

        Supplier<WhoOpensOne> some = PromisesOfShelves::shelved;
        s.promise(7, "BAD.");
        s.refuses(some, BAD, "show", 8, 0);
        s.refuses(some, BAD, "show", -1, 0);
        s.refuses(some, BAD, "show", 8, NONE);
        s.refuses(some, BAD, "show", 0, 1);
        s.refuses(some, BAD, "show", 0, -2);
        s.refuses(some, BAD, "show", 4, 14);
        for (int far : Sentences.FAR) {
            s.refuses(some, BAD, "show", far, 0);
            s.refuses(some, BAD, "show", 0, far);
        }
        s.refuses(WhoOpensOne::new, BAD, "show", 0, 0);
    }

    private static WhoOpensOne shown(int kind, boolean open, int... rooms) {
        WhoOpensOne x = new WhoOpensOne();
        x.door(kind, 1, 2);
        x.stand(0, open);
        for (int room : rooms) {
            x.one(room);
        }
        x.show(0, 0);
        return x;
    }

    private static void saying(Sentences s) {
        int[] weights = {1, 1, 2, 1, 0, 2};
        s.promise(8, "What the DOOR in SHELF s, taken for one of a KIND, says: DOOR its WEIGHT; LID its ROOM;");
        for (int kind = 0; kind < 6; kind++) {
            s.due(shown(kind, false), weights[kind], "says", 0, 0);
            s.due(shown(kind, true, 1), weights[kind], "says", 0, 0);
        }
        for (int room = 0; room < 8; room++) {
            WhoOpensOne x = new WhoOpensOne();
            s.due(x, 0, "door", 1, room, 5);
            s.due(x, 1, "show", 6, 0);
            s.due(x, room, "says", 6, 1);
        }
        s.promise(8, "GATE, GREAT 1 if it may be shut by somebody now, else 0;");
        s.due(shown(2, true), 0, "says", 0, 2);
        s.due(shown(2, true, 1), 1, "says", 0, 2);
        s.due(shown(2, true, 2), 1, "says", 0, 2);
        s.due(shown(2, true, 3, 0, 4, 2), 1, "says", 0, 2);
        s.due(shown(2, true, 3), 0, "says", 0, 2);
        s.due(shown(2, false, 1, 2), 0, "says", 0, 2);
        s.due(shown(5, true, 1, 2), 0, "says", 0, 5);
        s.due(shown(5, true, 1, 2), 0, "says", 0, 2);
        s.due(shown(5, false, 1, 2), 0, "says", 0, 5);

        s.promise(8, "BOLT 1 if somebody is where it can be opened from, CAT where it can be shut from (OPEN or not), else 0.");
        for (int open = 0; open < 2; open++) {
            s.due(shown(3, open == 1), 0, "says", 0, 3);
            s.due(shown(3, open == 1, 1), 1, "says", 0, 3);
            s.due(shown(3, open == 1, 2, 3), 0, "says", 0, 3);
            s.due(shown(3, open == 1, 7, 6, 5, 1), 1, "says", 0, 3);
            s.due(shown(4, open == 1), 0, "says", 0, 4);
            s.due(shown(4, open == 1, 1, 3), 0, "says", 0, 4);
            s.due(shown(4, open == 1, 2), 1, "says", 0, 4);
            s.due(shown(4, open == 1, 1, 0, 7, 2), 1, "says", 0, 4);
        }
        for (int kind = 3; kind <= 4; kind++) {
            WhoOpensOne x = new WhoOpensOne();
            s.due(x, 0, "door", kind, 7 * (kind - 3), 7 * (4 - kind));
            s.due(x, 1, "show", 0, 0);
            for (int p = 0; p < 4; p++) {
                s.due(x, 0, "says", 0, kind);
                s.due(x, p, "one", p + 1);
            }
            s.due(x, 0, "says", 0, kind);
            s.due(x, 4, "move", 3, 0);
            s.due(x, 1, "says", 0, kind);
        }
        Supplier<WhoOpensOne> some = PromisesOfShelves::shelved;
        s.promise(8, "BAD SHELF, KIND; OTHER (also if it is of no such KIND nor of one under it); NOTHING.");
        s.refuses(some, BAD, "says", 8, 0);
        s.refuses(some, BAD, "says", -1, 0);
        s.refuses(some, BAD, "says", 4, 6);
        s.refuses(some, BAD, "says", 4, -1);
        s.refuses(some, BAD, "says", 5, 6);
        s.refuses(some, BAD, "says", 0, 6);
        s.refuses(some, OTHER, "says", 0, 0);
        s.refuses(some, OTHER, "says", 3, 2);
        s.refuses(some, NOTHING, "says", 5, 0);
        for (int far : Sentences.FAR) {
            s.refuses(some, BAD, "says", far, 0);
            s.refuses(some, BAD, "says", 4, far);
        }
        for (int kind = 0; kind < 6; kind++) {
            int own = kind;
            for (int taken = 1; taken < 6; taken++) {
                if (taken != kind && !(taken == 2 && kind == 5)) {
                    s.refuses(() -> shown(own, true, 1), OTHER, "says", 0, taken);
                }
            }
        }
    }
}
