/** The terms of THE HOUSE up to its tape: rooms, doors, weights, people, the law, the wind. */
final class TermsOfHouses {
    private static final int BAD = Sentences.BAD;
    private static final int FULL = Sentences.FULL;
    private static final int OTHER = Sentences.OTHER;
    private static final int[] WEIGHTS = {1, 1, 2, 1, 0, 2};

    private TermsOfHouses() {
    }

    static void tryAll(Sentences s) {
        rooms(s);
        doors(s);
        weights(s);
        people(s);
        lawAndWind(s);
    }

    private static void rooms(Sentences s) {
        s.terms("ROOMS are 0 to 7 (0: out of doors).");
        WhoOpensOne x = new WhoOpensOne();
        s.due(x, 0, "one", 0);
        s.due(x, 1, "one", 7);
        s.due(x, BAD, "one", 8);
        s.due(x, BAD, "one", -1);
        s.due(x, 0, "door", 0, 0, 7);
        s.due(x, 1, "door", 0, 7, 0);
        s.due(x, BAD, "door", 0, 8, 0);
        s.due(x, BAD, "door", 0, 0, 8);
        s.due(x, BAD, "door", 0, -1, 0);
        s.due(x, BAD, "door", 0, 0, -1);
        s.due(x, 3, "doors", 1, 0);
        s.due(x, 3, "doors", 1, 7);
        s.due(x, BAD, "doors", 1, 8);
        s.due(x, BAD, "doors", 1, -1);
        s.due(x, 2, "shutIn");
        s.due(x, 2, "lost");
    }

    private static void doors(Sentences s) {
        s.terms("DOORS have numbers, 0 on, 14 at most, each of a KIND:");
        WhoOpensOne x = new WhoOpensOne();
        for (int d = 0; d < 14; d++) {
            s.due(x, d, "door", d % 6, 0, 1);
        }
        s.due(x, FULL, "door", 0, 0, 1);
        s.due(x, 14, "status", 0);
        for (int d = 0; d < 14; d++) {
            s.due(x, d % 6, "doorOf", d, 0);
        }
        s.due(x, BAD, "doorOf", 14, 0);
        s.due(x, BAD, "doorOf", -1, 0);

        s.terms("0 DOOR; 1 LID, 2 GATE, 3 BOLT, 4 CAT, each under DOOR; 5 GREAT, under GATE;");
        x = Sentences.house("door 0 1 2; door 1 1 2; door 2 1 2; door 3 1 2; door 4 1 2; door 5 1 2");
        for (int kind = 0; kind < 6; kind++) {
            s.due(x, 1, "show", 0, kind);
            for (int taken = 0; taken < 6; taken++) {
                boolean fits = taken == kind || taken == 0 || (taken == 2 && kind == 5);
                boolean refused = s.call(x, "says", 0, taken) == OTHER;
                s.same("kind " + kind + " taken for " + taken, !refused, fits);
            }
        }
        s.due(x, BAD, "door", 6, 1, 2);
        s.due(x, BAD, "door", -1, 1, 2);

        s.terms("two unlike ROOMS A, B (LID: B is not asked, it is A), OPEN or not (at first not).");
        x = new WhoOpensOne();
        for (int kind = 0; kind < 6; kind++) {
            s.due(x, kind == 1 ? 0 : BAD, "door", kind, 3, 3);
        }
        s.due(x, 3, "doorOf", 0, 2);
        s.due(x, 1, "door", 1, 3, 5);
        s.due(x, 2, "door", 1, 0, -9);
        s.due(x, 3, "door", 1, 7, Integer.MAX_VALUE);
        s.due(x, BAD, "door", 1, 8, 3);
        s.due(x, 3, "doorOf", 1, 2);
        s.due(x, 0, "doorOf", 2, 2);
        s.due(x, 7, "doorOf", 3, 2);
        s.due(x, 4, "door", 0, 3, 4);
        s.due(x, 0, "doors", 0, 0);
        for (int d = 0; d < 5; d++) {
            s.due(x, 0, "doorOf", d, 3);
        }
        s.due(x, 1, "stand", 4, 1);
        s.due(x, 1, "doorOf", 4, 3);
        s.due(x, 5, "door", 0, 3, 4);
        s.due(x, 0, "doorOf", 5, 3);
    }

    private static void weights(Sentences s) {
        s.terms("WEIGHT: 1; GATE, GREAT: 2; CAT: 0.");
        WhoOpensOne x = new WhoOpensOne();
        for (int kind = 0; kind < 6; kind++) {
            s.due(x, kind, "door", kind, 1, 2);
            s.due(x, WEIGHTS[kind], "doorOf", kind, 4);
        }
    }

    private static void people(Sentences s) {
        s.terms("PEOPLE have numbers, 0 on, 4 at most: a ROOM.");
        WhoOpensOne x = new WhoOpensOne();
        for (int p = 0; p < 4; p++) {
            s.due(x, p, "one", 7 - 2 * p);
        }
        s.due(x, FULL, "one", 1);
        s.due(x, 4, "status", 2);
        for (int p = 0; p < 4; p++) {
            s.due(x, 7 - 2 * p, "where", p);
        }
        s.due(x, BAD, "where", 4);
        s.due(x, BAD, "where", -1);
    }

    private static void lawAndWind(Sentences s) {
        s.terms("THE LAW: L (1 to 4; 2 at first).");
        WhoOpensOne x = new WhoOpensOne();
        s.due(x, 2, "status", 3);
        s.due(x, BAD, "ask", 0, 0);
        s.due(x, BAD, "ask", 0, 5);
        s.due(x, 2, "ask", 0, 1);
        s.due(x, 1, "ask", 0, 4);
        s.due(x, 4, "status", 3);

        s.terms("WIND (0 to 99; 0 at first).");
        s.due(x, 0, "status", 4);
        s.due(x, BAD, "ask", 1, -1);
        s.due(x, BAD, "ask", 1, 100);
        s.due(x, 0, "ask", 1, 99);
        s.due(x, 99, "ask", 1, 0);
        s.due(x, 0, "status", 4);
    }
}
