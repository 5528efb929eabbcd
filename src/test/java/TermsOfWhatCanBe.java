/** The terms of WHAT CAN BE: coming, errands, stock, what lasts, what a door is worth. */
final class TermsOfWhatCanBe {
    private static final int NONE = Sentences.NONE;
    private static final int STUCK = Sentences.STUCK;

    /** Each gate can be opened only by shutting the one behind. */
    static final String CHAIN = "door 2 1 2 open; door 2 2 3; door 2 3 4; door 2 4 5; door 2 5 6; door 2 6 7; door 2 7 0; one 1";

    private TermsOfWhatCanBe() {
    }

    static void tryAll(Sentences s) {
        actsOfOneAlone(s);
        sets(s);
        fewest(s);
        errands(s);
        nineDoors(s);
        out(s);
        stock(s);
        lasts(s);
        forever(s);
        worth(s);
        endless(s);
    }

    private static void actsOfOneAlone(Sentences s) {
        s.terms("COMING of one to a ROOM: of all rows of acts of that one alone (WALKING, OPENING with any such set,");
        WhoOpensOne x = Sentences.house("door 0 1 2 open; door 0 2 3 open; door 0 2 0; one 1; one 7; law 1");
        s.due(x, 0, "coming", 0, 3);
        s.due(x, 1, "coming", 0, 0);
        s.due(x, NONE, "coming", 1, 0);
        x = Sentences.house("door 0 1 2 open; door 1 1 1 open; door 0 2 3; one 1; one 1; law 1");
        s.due(x, 1, "row", 0, 0, 2);
        s.due(x, 1, "set", 0, 0, 3);
        s.due(x, 1, "set", 0, 1, 1);
        s.due(x, 1, "errands", 0, 0, 2);
        s.due(x, 1, "move", 1, 4);
        s.due(x, 2, "errands", 0, 0, 2);

        s.terms("others staying where they are and shutting), without SHUTTING alone, by which they come there,");
        x = Sentences.house("door 2 5 6 open; door 0 1 0; one 1; one 5");
        s.due(x, 1, "coming", 0, 0);
        s.due(x, 5, "move", 1, 4);
        s.due(x, NONE, "coming", 0, 0);
        x = Sentences.house("door 2 5 6 open; door 0 1 0; door 0 4 5 open; one 1; one 4");
        s.due(x, NONE, "coming", 0, 0);
        x = Sentences.house("door 3 0 1; door 1 1 1 open; door 1 1 1 open; one 1; one 0");
        s.due(x, NONE, "coming", 0, 0);
        s.due(x, 1, "coming", 1, 1);
        x = Sentences.house("door 3 5 1; door 1 5 5 open; door 1 5 5 open; one 1");
        s.due(x, NONE, "coming", 0, 5);
        s.due(x, 1, "move", 0, 5);
        s.due(x, 1, "coming", 0, 1);
        x = Sentences.house("door 1 5 5 open; door 1 6 6 open; door 0 1 0; one 5; one 1; one 6");
        s.due(x, 1, "coming", 1, 0);
        s.due(x, 6, "move", 2, 5);
        s.due(x, NONE, "coming", 1, 0);
    }

    private static void sets(Sentences s) {
        s.terms("OPENING with any such set,");
        for (int law = 1; law <= 4; law++) {
            WhoOpensOne x = Sentences.house("door 2 1 2 open; door 2 1 2 open; door 0 1 0; one 1; law " + law);
            s.due(x, 1, "coming", 0, 0);
            s.due(x, 1, "stand", 0, 0);
            s.due(x, law <= 2 ? 1 : NONE, "coming", 0, 0);
            x = Sentences.house("door 1 1 1 open; door 1 1 1 open; door 1 1 1 open; door 1 1 1 open; door 0 1 0; door 1 5 5; door 1 5 5;"
                    + "door 1 5 5; door 1 5 5; one 1; law " + law);
            for (int shut = 0; shut <= 4; shut++) {
                s.due(x, 4 - shut >= law ? 1 : NONE, "coming", 0, 0);
                s.call(x, "stand", shut, 0);
            }
        }
        // Under law 1 a lid is left for the second door; under law 2 both are gone with the first.
        WhoOpensOne x = Sentences.house("door 1 1 1 open; door 1 1 1 open; door 0 1 2; door 0 2 0; one 1; one 1");
        s.due(x, 2, "ask", 0, 1);
        s.due(x, 2, "coming", 0, 0);
        s.due(x, 1, "ask", 0, 2);
        s.due(x, NONE, "coming", 0, 0);
        s.due(x, 1, "coming", 0, 2);
        s.due(x, 2, "ask", 0, 1);
        s.due(x, 2, "coming", 0, 0);
    }

    private static void fewest(Sentences s) {
        s.terms("the fewest OPENINGS.");
        WhoOpensOne x = Sentences.house(CHAIN);
        int[] chain = {6, 0, 0, 1, 2, 3, 4, 5};
        for (int room = 0; room < 8; room++) {
            s.due(x, chain[room], "coming", 0, room);
        }
        x = Sentences.house("one 1; law 1; door 0 1 2; door 0 2 0; door 0 1 0; door 1 1 1 open");
        s.due(x, 1, "coming", 0, 0);
        s.due(x, 2, "first", 0, 0);
        s.due(x, 1, "stand", 2, 1);
        s.due(x, 0, "coming", 0, 0);
        x = Sentences.house("one 1; law 1; door 0 1 2; door 0 2 0; door 1 1 1 open");
        s.due(x, 2, "coming", 0, 0);
        s.due(x, 1, "ask", 0, 2);
        s.due(x, NONE, "coming", 0, 0);
    }

    static void setRow(Sentences s, WhoOpensOne x, int shelf, long... elements) {
        s.call(x, "row", shelf, 3, elements.length);
        for (int i = 0; i < elements.length; i++) {
            s.call(x, "set", shelf, i, elements[i]);
        }
    }

    private static void errands(Sentences s) {
        s.terms("ERRANDS: likewise through ROOMS of a ROW in their order.");
        long[][] rows = {{0, 1}, {1, 0}, {7, 0}, {0, 7}, {0, 6}, {7, 1, 0, 1}, {1, 1, 1, 1}, {2, 1, 2, 3}, {3, 3, 2, 1}};
        int[] due = {12, 6, 6, 6, 7, 22, 0, 1, 2};
        for (int i = 0; i < rows.length; i++) {
            WhoOpensOne x = Sentences.house(CHAIN);
            setRow(s, x, 2, rows[i]);
            s.due(x, due[i], "errands", 0, 2, rows[i].length);
        }
    }

    /** The chain with so many doors in all; those beyond seven are lids that help nobody. */
    static WhoOpensOne chainOf(int doors) {
        WhoOpensOne x = Sentences.house(CHAIN);
        for (int d = 7; d < doors; d++) {
            x.door(1, 5, 5);
        }
        return x;
    }

    private static void nineDoors(Sentences s) {
        s.terms("(9 DOORS at most.)");
        WhoOpensOne nine = chainOf(9);
        setRow(s, nine, 0, 7, 1, 0, 1);
        s.due(nine, 6, "coming", 0, 0);
        s.due(nine, 255, "all", 0);
        s.due(nine, 1, "first", 0, 0);
        s.due(nine, 22, "errands", 0, 0, 4);
        s.due(nine, 0, "lost");
        for (int doors = 10; doors <= 14; doors += 4) {
            WhoOpensOne many = chainOf(doors);
            setRow(s, many, 0, 7, 1, 0, 1);
            s.due(many, STUCK, "coming", 0, 0);
            s.due(many, STUCK, "all", 0);
            s.due(many, STUCK, "first", 0, 0);
            s.due(many, STUCK, "errands", 0, 0, 4);
            s.due(many, STUCK, "lost");
        }
    }

    private static void out(Sentences s) {
        s.terms("OUT: to ROOM 0.");
        WhoOpensOne x = Sentences.house("door 0 1 0; door 0 7 6; door 2 1 2 open; one 1; one 7; one 0; one 2");
        s.due(x, 2, "lost");
        s.due(x, 2, "ask", 0, 3);
        s.due(x, 11, "lost");
    }

    private static void stock(Sentences s) {
        s.terms("STOCK: the WEIGHTS of all OPEN DOORS that aren't GREAT together.");
        int[] stocks = {1, 1, 2, 1, 0, 0};
        WhoOpensOne x = Sentences.house("door 0 0 1; door 1 0 1; door 2 0 1; door 3 0 1; door 4 0 1; door 5 0 1");
        s.due(x, 0, "stock");
        int sum = 0;
        for (int kind = 0; kind < 6; kind++) {
            s.call(x, "stand", kind, 1);
            sum += stocks[kind];
            s.due(x, sum, "stock");
        }
        for (int kind = 0; kind < 6; kind++) {
            s.call(x, "stand", kind, 0);
            sum -= stocks[kind];
            s.due(x, sum, "stock");
        }
        x = new WhoOpensOne();
        for (int d = 0; d < 14; d++) {
            s.call(x, "door", 2, 0, 1);
            s.call(x, "stand", d, 1);
        }
        s.due(x, 28, "stock");
    }

    /** So many open ones of each kind, then so many shut ones. */
    static WhoOpensOne mixture(int law, int... kindOpenShut) {
        WhoOpensOne x = new WhoOpensOne();
        x.ask(0, law);
        for (int i = 0; i + 2 < kindOpenShut.length; i += 3) {
            for (int k = 0; k < kindOpenShut[i + 1] + kindOpenShut[i + 2]; k++) {
                x.stand(x.door(kindOpenShut[i], 0, 1), k < kindOpenShut[i + 1]);
            }
        }
        return x;
    }

    private static void lasts(Sentences s) {
        s.terms("LASTS: how many OPENINGS there can be at most, one after the other, if all people could come to all DOORS");
        int[][] bySingles = {{99, 99, 99, 99, 99, 99, 99, 99, 99}, {0, 1, 2, 3, 4, 5, 6, 7, 8}, {0, 0, 1, 1, 2, 2, 3, 3, 4},
            {0, 0, 0, 1, 1, 1, 2, 2, 2}};
        for (int law = 1; law <= 4; law++) {
            s.due(mixture(law, 0, 0, 2), 0, "lasts");
            for (int open = 1; open <= 9; open++) {
                s.due(mixture(law, 0, open, 1), bySingles[law - 1][open - 1], "lasts");
                s.due(mixture(law, 0, open, 5), bySingles[law - 1][open - 1], "lasts");
                s.due(mixture(law, 0, open, 0), 0, "lasts");
            }
        }
        // A gate is shut for a door, two doors for the gate: each turn costs 1 of the stock.
        s.due(mixture(2, 0, 2, 2, 2, 1, 0), 5, "lasts");
        s.due(mixture(3, 0, 2, 1, 2, 1, 1), 2, "lasts");
        s.due(new WhoOpensOne(), 0, "lasts");

        s.terms("(however many PEOPLE there are;");
        WhoOpensOne x = mixture(2, 0, 3, 1);
        s.due(x, 2, "lasts");
        for (int p = 0; p < 4; p++) {
            s.due(x, p, "one", 2 * p);
            s.due(x, 2, "lasts");
        }
        x = Sentences.house("door 3 6 7; door 4 1 2 open; door 1 5 5 open; door 3 1 4 open; one 0");
        s.due(x, 1, "lasts");

        s.terms("GREAT ones are never shut;");
        s.due(mixture(1, 5, 3, 0, 0, 0, 2), 0, "lasts");
        s.due(mixture(2, 5, 3, 3), 0, "lasts");
        s.due(mixture(2, 0, 2, 0, 5, 3, 1), 1, "lasts");
        s.due(mixture(2, 0, 2, 0, 5, 0, 3), 1, "lasts");
        s.due(mixture(2, 0, 4, 0, 5, 0, 1), 2, "lasts");
        s.due(mixture(2, 2, 1, 0, 5, 1, 1), 1, "lasts");

        s.terms("each set as above);");
        s.due(mixture(1, 4, 9, 1, 0, 0, 1), 0, "lasts");
        s.due(mixture(2, 4, 9, 1, 0, 1, 1), 0, "lasts");
        s.due(mixture(2, 4, 1, 1, 0, 2, 0), 1, "lasts");
        s.due(mixture(3, 2, 2, 0, 0, 0, 1), 1, "lasts");
        s.due(mixture(3, 2, 1, 0, 0, 0, 1), 0, "lasts");
        s.due(mixture(4, 2, 2, 0, 0, 0, 1), 1, "lasts");
        s.due(mixture(4, 2, 1, 0, 0, 1, 1), 0, "lasts");
        s.due(mixture(4, 2, 1, 0, 0, 2, 1), 1, "lasts");
    }

    private static void forever(Sentences s) {
        s.terms("99, if there can be 99.");
        s.due(mixture(1, 0, 1, 1), 99, "lasts");
        s.due(mixture(1, 2, 1, 1), 99, "lasts");
        s.due(mixture(1, 0, 1, 0, 2, 0, 1), 99, "lasts");
        s.due(mixture(1, 2, 1, 0, 0, 0, 1), 99, "lasts");
        s.due(mixture(2, 2, 1, 1), 99, "lasts");
        s.due(mixture(2, 2, 7, 1), 99, "lasts");
        s.due(mixture(2, 2, 0, 2, 0, 2, 0), 99, "lasts");
        s.due(mixture(2, 2, 0, 1, 0, 2, 0), 2, "lasts");
        s.due(mixture(1, 0, 2, 0, 5, 0, 1), 99, "lasts");
        s.due(mixture(1, 0, 1, 0, 5, 0, 1), 1, "lasts");
        s.due(mixture(2, 2, 2, 0, 4, 0, 1), 99, "lasts");
        s.due(mixture(2, 2, 1, 0, 4, 0, 1), 1, "lasts");
        s.due(mixture(3, 2, 7, 7), 6, "lasts");
        s.due(mixture(4, 2, 7, 7), 6, "lasts");
        s.due(mixture(1, 0, 14, 0), 0, "lasts");
        s.due(mixture(1, 2, 2, 0), 0, "lasts");
        s.due(mixture(1, 2, 1, 0, 5, 0, 1), 1, "lasts");
    }

    private static void worth(Sentences s) {
        s.terms("WORTH of an OPEN DOOR: LASTS less LASTS, if it were shut (a GREAT one, too).");
        s.due(mixture(2, 0, 3, 1), 1, "worth", 0);
        s.due(mixture(3, 0, 3, 1), 1, "worth", 2);
        s.due(mixture(3, 0, 4, 1), 0, "worth", 3);
        s.due(mixture(1, 0, 1, 1), 99, "worth", 0);
        s.due(mixture(1, 0, 2, 1), 0, "worth", 0);
        s.due(mixture(1, 0, 2, 0), -99, "worth", 0);
        s.due(mixture(2, 0, 2, 0), 0, "worth", 0);
        s.due(mixture(2, 0, 3, 0), -1, "worth", 0);
        s.due(mixture(2, 0, 2, 0, 5, 1, 0), -1, "worth", 2);
        s.due(mixture(2, 0, 2, 0, 5, 1, 1), 0, "worth", 2);
        s.due(mixture(2, 0, 2, 0, 4, 1, 0), -1, "worth", 2);
    }

    private static void endless(Sentences s) {
        s.terms("ENDLESS: LAWS (bits 1 to 4) for which LASTS would be 99.");
        for (int law = 1; law <= 4; law++) {
            s.due(mixture(law, 2, 1, 1), 6, "endless");
            s.due(mixture(law, 0, 1, 1), 2, "endless");
            s.due(mixture(law, 0, 1, 0), 0, "endless");
            s.due(mixture(law, 2, 0, 2, 0, 2, 0), 6, "endless");
            s.due(mixture(law, 2, 7, 7), 6, "endless");
            s.due(mixture(law, 0, 0, 1), 0, "endless");
            s.due(mixture(law, 2, 0, 2, 0, 1, 0), 2, "endless");
        }
        s.due(new WhoOpensOne(), 0, "endless");
        WhoOpensOne x = mixture(3, 2, 1, 1);
        s.due(x, 6, "endless");
        s.due(x, 3, "status", 3);
    }
}
