import java.util.function.Supplier;

/** Promises 9 to 19: doors, people, law and wind, the tape, a house read from it, and what can be asked of them. */
final class PromisesOfHouses {
    private static final int BAD = Sentences.BAD;
    private static final int FULL = Sentences.FULL;

    private PromisesOfHouses() {
    }

    static void tryAll(Sentences s) {
        door(s);
        one(s);
        ask(s);
        stand(s);
        move(s);
        feed(s);
        wipe(s);
        house(s);
        doorOf(s);
        where(s);
        doors(s);
    }

    private static WhoOpensOne some() {
        return TermsOfTellingAndDraws.furnished();
    }

    private static WhoOpensOne fullHouse() {
        WhoOpensOne x = some();
        while (x.status(0) < 14) {
            x.door(0, 6, 7);
        }
        while (x.status(2) < 4) {
            x.one(5);
        }
        return x;
    }

    private static void door(Sentences s) {
        s.promise(9, "A DOOR: its number.");
        WhoOpensOne x = new WhoOpensOne();
        for (int d = 0; d < 14; d++) {
            int a = d % 8;
            int b = (d * 3 + 1) % 8 == a ? (a + 1) % 8 : (d * 3 + 1) % 8;
            s.due(x, d, "door", d % 6, a, b);
            s.due(x, d % 6, "doorOf", d, 0);
            s.due(x, a, "doorOf", d, 1);
            s.due(x, d % 6 == 1 ? a : b, "doorOf", d, 2);
            s.due(x, 0, "doorOf", d, 3);
            s.due(x, d + 1, "status", 0);
        }
        s.promise(9, "BAD; FULL.");
        Supplier<WhoOpensOne> few = PromisesOfHouses::some;
        Supplier<WhoOpensOne> many = PromisesOfHouses::fullHouse;
        for (int kind = 0; kind < 6; kind++) {
            s.refuses(few, BAD, "door", kind, 8, 1);
            s.refuses(few, BAD, "door", kind, -1, 1);
            s.refuses(many, FULL, "door", kind, 0, 1);
            if (kind != 1) {
                s.refuses(few, BAD, "door", kind, 1, 8);
                s.refuses(few, BAD, "door", kind, 1, -1);
                s.refuses(few, BAD, "door", kind, 0, 0);
                s.refuses(few, BAD, "door", kind, 7, 7);
                s.refuses(many, BAD, "door", kind, 7, 7);
            }
        }
        s.refuses(few, BAD, "door", 6, 1, 2);
        s.refuses(few, BAD, "door", -1, 1, 2);
        s.refuses(many, BAD, "door", 6, 1, 2);
        s.refuses(many, BAD, "door", 1, 8, 2);
        for (int far : Sentences.FAR) {
            s.refuses(few, BAD, "door", far, 1, 2);
            s.refuses(few, BAD, "door", 0, far, 2);
            s.refuses(few, BAD, "door", 0, 1, far);
            s.refuses(many, FULL, "door", 1, 0, far);
        }
    }

    private static void one(Sentences s) {
        s.promise(10, "One more of the PEOPLE: the number.");
        WhoOpensOne x = new WhoOpensOne();
        for (int p = 0; p < 4; p++) {
            s.due(x, p, "one", p * 2 + 1);
            s.due(x, p * 2 + 1, "where", p);
            s.due(x, p + 1, "status", 2);
        }
        s.promise(10, "BAD; FULL.");
        s.refuses(PromisesOfHouses::some, BAD, "one", 8);
        s.refuses(PromisesOfHouses::some, BAD, "one", -1);
        s.refuses(PromisesOfHouses::fullHouse, FULL, "one", 0);
        s.refuses(PromisesOfHouses::fullHouse, FULL, "one", 7);
        s.refuses(PromisesOfHouses::fullHouse, BAD, "one", 8);
        s.refuses(PromisesOfHouses::fullHouse, BAD, "one", -1);
        for (int far : Sentences.FAR) {
            s.refuses(PromisesOfHouses::some, BAD, "one", far);
        }
    }

    private static void ask(Sentences s) {
        s.promise(11, "L (what 0), WIND (1) becomes v: what it was.");
        WhoOpensOne x = new WhoOpensOne();
        int was = 2;
        for (int v : new int[] {1, 2, 3, 4, 4, 1}) {
            s.due(x, was, "ask", 0, v);
            s.due(x, v, "status", 3);
            was = v;
        }
        s.due(x, 0, "status", 4);
        was = 0;
        for (int v : new int[] {1, 99, 50, 0, 0}) {
            s.due(x, was, "ask", 1, v);
            s.due(x, v, "status", 4);
            was = v;
        }
        s.due(x, 1, "status", 3);
        s.promise(11, "BAD.");
        s.refuses(PromisesOfHouses::some, BAD, "ask", 0, 0);
        s.refuses(PromisesOfHouses::some, BAD, "ask", 0, 5);
        s.refuses(PromisesOfHouses::some, BAD, "ask", 1, -1);
        s.refuses(PromisesOfHouses::some, BAD, "ask", 1, 100);
        s.refuses(PromisesOfHouses::some, BAD, "ask", 2, 1);
        s.refuses(PromisesOfHouses::some, BAD, "ask", -1, 1);
        for (int far : Sentences.FAR) {
            s.refuses(PromisesOfHouses::some, BAD, "ask", far, 1);
            s.refuses(PromisesOfHouses::some, BAD, "ask", 0, far);
            s.refuses(PromisesOfHouses::some, BAD, "ask", 1, far);
        }
    }

    private static void stand(Sentences s) {
        s.promise(12, "A DOOR is OPEN, or not (it is said so, no act): 1; 0 if it was so.");
        WhoOpensOne x = new WhoOpensOne();
        for (int d = 0; d < 14; d++) {
            s.due(x, d, "door", d % 6, 1, 2);
        }
        for (int d = 0; d < 14; d++) {
            s.due(x, 0, "stand", d, 0);
            s.due(x, 1, "stand", d, 1);
            s.due(x, 0, "stand", d, 1);
            s.due(x, (2 << d) - 1, "doors", 0, 0);
        }
        s.due(x, 1, "stand", 5, 0);
        s.due(x, 0, "stand", 5, 0);
        s.due(x, 16383 - 32, "doors", 0, 0);
        s.due(x, 0, "status", 5);
        s.promise(12, "BAD.");
        s.refuses(PromisesOfHouses::some, BAD, "stand", 6, 1);
        s.refuses(PromisesOfHouses::some, BAD, "stand", 6, 0);
        s.refuses(PromisesOfHouses::some, BAD, "stand", -1, 1);
        s.refuses(PromisesOfHouses::fullHouse, BAD, "stand", 14, 1);
        for (int far : Sentences.FAR) {
            s.refuses(PromisesOfHouses::some, BAD, "stand", far, 1);
        }
    }

    private static void move(Sentences s) {
        s.promise(13, "One of the PEOPLE is in a ROOM (no act): the one they were in.");
        WhoOpensOne x = Sentences.house("one 1; one 2; one 3; one 4");
        s.due(x, 4, "move", 3, 0);
        s.due(x, 0, "move", 3, 7);
        s.due(x, 7, "move", 3, 7);
        s.due(x, 1, "move", 0, 5);
        int[] where = {5, 2, 3, 7};
        for (int p = 0; p < 4; p++) {
            s.due(x, where[p], "where", p);
        }
        s.due(x, 0, "status", 5);
        s.promise(13, "BAD.");
        s.refuses(PromisesOfHouses::some, BAD, "move", 2, 0);
        s.refuses(PromisesOfHouses::some, BAD, "move", -1, 0);
        s.refuses(PromisesOfHouses::some, BAD, "move", 0, 8);
        s.refuses(PromisesOfHouses::some, BAD, "move", 0, -1);
        s.refuses(PromisesOfHouses::fullHouse, BAD, "move", 4, 0);
        for (int far : Sentences.FAR) {
            s.refuses(PromisesOfHouses::some, BAD, "move", far, 0);
            s.refuses(PromisesOfHouses::some, BAD, "move", 0, far);
        }
    }

    private static WhoOpensOne taped(int size) {
        return Sentences.feed(new WhoOpensOne(), "one 3;law 4" + " ".repeat(size - 11));
    }

    private static void feed(Sentences s) {
        s.promise(14, "THE TAPE gets the n lowest bytes (1 .. 4) of v behind it, the highest of these first: its size.");
        WhoOpensOne x = new WhoOpensOne();
        s.due(x, 4, "feed", 0x77696E64, 4);
        s.due(x, 7, "feed", 0xFF202020, 3);
        s.due(x, 9, "feed", 0xFFFF3837L, 2);
        s.due(x, 10, "feed", 0x3131313B, 1);
        s.due(x, 13, "feed", 0x006C6177, 3);
        s.due(x, 14, "feed", 0xABCDEF33L, 1);
        s.due(x, 2, "house");
        s.due(x, 87, "status", 4);
        s.due(x, 3, "status", 3);
        s.due(x, 2, "feed", -1, 2);
        s.due(x, 6, "feed", Integer.MIN_VALUE, 4);
        s.due(x, -20, "house");
        s.due(x, 1, "feed", 32, 1);
        s.due(x, 5, "feed", 0x20202080, 4);
        s.due(x, -24, "house");
        s.promise(14, "BAD; FULL.");
        s.refuses(() -> taped(20), BAD, "feed", 32, 0);
        s.refuses(() -> taped(20), BAD, "feed", 32, 5);
        s.refuses(() -> taped(20), BAD, "feed", 32, -1);
        s.refuses(() -> taped(250), BAD, "feed", 32, 0);
        s.refuses(() -> taped(250), BAD, "feed", 32, 5);
        for (int far : Sentences.FAR) {
            s.refuses(() -> taped(20), BAD, "feed", 32, far);
        }
        for (int n = 1; n <= 4; n++) {
            int size = 250 - n;
            s.due(taped(size), 250, "feed", 32, n);
            s.refuses(() -> taped(size + 1), FULL, "feed", 32, n);
            s.refuses(() -> taped(250), FULL, "feed", 32, n);
        }
    }

    private static void wipe(Sentences s) {
        s.promise(15, "THE TAPE is empty: its size ahead.");
        WhoOpensOne x = taped(250);
        s.due(x, 250, "wipe");
        s.due(x, 0, "status", 6);
        s.due(x, 0, "wipe");
        s.due(x, 1, "feed", 32, 1);
        s.due(x, 1, "wipe");
        s.due(x, -20, "house");
        s.due(x, 0, "status", 2);
    }

    private static void house(Sentences s) {
        s.promise(16, "THE TAPE is a HOUSE: how many STATEMENTS;");
        WhoOpensOne x = new WhoOpensOne();
        s.reads(x, 1, "one 4");
        s.reads(x, 3, "one 5;door 2 1 2 open;moves 1 6");
        s.due(x, 2, "status", 2);
        s.due(x, 4, "where", 0);
        s.due(x, 6, "where", 1);
        s.due(x, 1, "doors", 0, 0);
        s.promise(16, "-20 less the FAULT (that is refused, too: BAD).");
        s.faulty(PromisesOfHouses::some, "^");
        s.faulty(PromisesOfHouses::some, "^x");
        s.faulty(PromisesOfHouses::some, "law 1;wind 2;moves 0 5;door 5 1 2 open;one ^9");
        s.faulty(PromisesOfHouses::some, " ".repeat(249) + "^?");
        s.faulty(PromisesOfHouses::some, "law 1;" + " ".repeat(244) + "^");
        s.promise(16, "THE TAPE is empty then, either way.");
        x = Sentences.feed(new WhoOpensOne(), "one 4");
        s.due(x, 1, "house");
        s.due(x, 0, "status", 6);
        s.due(x, -20, "house");
        Sentences.feed(x, "one 9 and more");
        s.due(x, -24, "house");
        s.due(x, 0, "status", 6);
        s.due(x, 0, "wipe");
        s.due(x, 3, "feed", 0x6F6E65, 3);
        s.due(x, 4, "feed", '5', 1);
        s.due(x, 1, "house");
        s.due(x, 5, "where", 1);
    }

    private static void doorOf(Sentences s) {
        s.promise(17, "Of a DOOR: KIND (0), A (1), B (2), 1 if OPEN (3), WEIGHT (4).");
        WhoOpensOne x = Sentences.house("door 0 7 0; door 1 5 2 open; door 2 0 7 open; door 3 4 2; door 4 1 0 open; door 5 6 3");
        int[][] due = {{0, 7, 0, 0, 1}, {1, 5, 5, 1, 1}, {2, 0, 7, 1, 2}, {3, 4, 2, 0, 1}, {4, 1, 0, 1, 0}, {5, 6, 3, 0, 2}};
        for (int d = 0; d < 6; d++) {
            for (int what = 0; what < 5; what++) {
                s.due(x, due[d][what], "doorOf", d, what);
            }
        }
        s.promise(17, "BAD.");
        s.refuses(PromisesOfHouses::some, BAD, "doorOf", 6, 0);
        s.refuses(PromisesOfHouses::some, BAD, "doorOf", -1, 0);
        s.refuses(PromisesOfHouses::some, BAD, "doorOf", 0, 5);
        s.refuses(PromisesOfHouses::some, BAD, "doorOf", 0, -1);
        s.refuses(PromisesOfHouses::fullHouse, BAD, "doorOf", 14, 0);
        for (int far : Sentences.FAR) {
            s.refuses(PromisesOfHouses::some, BAD, "doorOf", far, 0);
            s.refuses(PromisesOfHouses::some, BAD, "doorOf", 0, far);
        }
    }

    private static void where(Sentences s) {
        s.promise(18, "The ROOM of one.");
        WhoOpensOne x = Sentences.house("one 7; one 0; one 3; one 3; door 0 3 4 open");
        s.due(x, 4, "walk", 2, 0);
        int[] rooms = {7, 0, 4, 3};
        for (int p = 0; p < 4; p++) {
            s.due(x, rooms[p], "where", p);
        }
        s.promise(18, "BAD.");
        s.refuses(PromisesOfHouses::some, BAD, "where", 2);
        s.refuses(PromisesOfHouses::some, BAD, "where", -1);
        s.refuses(PromisesOfHouses::fullHouse, BAD, "where", 4);
        s.refuses(WhoOpensOne::new, BAD, "where", 0);
        for (int far : Sentences.FAR) {
            s.refuses(PromisesOfHouses::some, BAD, "where", far);
        }
    }

    private static void doors(Sentences s) {
        s.promise(19, "DOORS (bits) that are OPEN (what 0), that are AT a ROOM (1), that somebody may SHUT now (2; room doesn't count, "
                + "nor for 0).");
        WhoOpensOne x = Sentences.house("door 0 1 2 open; door 1 1 5 open; door 4 1 2 open; door 5 1 2 open; door 2 3 4 open; door 0 1 3;"
                + "one 1");
        for (int room : new int[] {0, 7, -1, 8, Integer.MIN_VALUE, Integer.MAX_VALUE}) {
            s.due(x, 31, "doors", 0, room);
            s.due(x, 3, "doors", 2, room);
        }
        int[] at = {0, 47, 13, 48, 16, 0, 0, 0};
        for (int room = 0; room < 8; room++) {
            s.due(x, at[room], "doors", 1, room);
        }
        s.due(x, 1, "one", 2);
        s.due(x, 7, "doors", 2, 0);
        s.due(x, 2, "one", 4);
        s.due(x, 23, "doors", 2, 0);
        s.due(x, 1, "stand", 0, 0);
        s.due(x, 22, "doors", 2, 0);
        s.due(x, 30, "doors", 0, 0);
        x = new WhoOpensOne();
        for (int what = 0; what < 3; what++) {
            s.due(x, 0, "doors", what, 0);
        }
        s.promise(19, "BAD.");
        s.refuses(PromisesOfHouses::some, BAD, "doors", 1, 8);
        s.refuses(PromisesOfHouses::some, BAD, "doors", 1, -1);
        s.refuses(PromisesOfHouses::some, BAD, "doors", 3, 0);
        s.refuses(PromisesOfHouses::some, BAD, "doors", -1, 0);
        for (int far : Sentences.FAR) {
            s.refuses(PromisesOfHouses::some, BAD, "doors", 1, far);
            s.refuses(PromisesOfHouses::some, BAD, "doors", far, 0);
        }
    }
}
