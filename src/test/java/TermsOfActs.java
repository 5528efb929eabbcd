/** The terms of ACTS: where a door is, who may shut, walk, open, by which sets, and how far one can walk. */
final class TermsOfActs {
    private static final int STUCK = Sentences.STUCK;
    private static final int[] WEIGHTS = {1, 1, 2, 1, 0, 2};

    /** Of each kind, between 1 and 2: whether it can be done from 1 and from 2. */
    private static final int[][] SHUTS = {{1, 1}, {1, 0}, {1, 1}, {1, 1}, {0, 1}, {0, 0}};
    private static final int[][] WALKS = {{1, 1}, {0, 0}, {1, 1}, {1, 1}, {1, 1}, {1, 1}};
    private static final int[][] OPENS = {{1, 1}, {1, 0}, {1, 1}, {1, 0}, {1, 1}, {1, 1}};

    private TermsOfActs() {
    }

    static void tryAll(Sentences s) {
        at(s);
        shutting(s);
        walking(s);
        opening(s);
        setsOfOthers(s);
        setsByWeight(s);
        done(s);
        reach(s);
    }

    private static void at(Sentences s) {
        s.terms("A DOOR is AT ROOMS A and B (LID: A).");
        WhoOpensOne x = Sentences.house("door 0 1 2; door 1 1 2; door 2 2 3; door 3 3 1; door 4 0 7; door 5 7 2");
        int[] at = {16, 11, 37, 12, 0, 0, 0, 48};
        for (int room = 0; room < 8; room++) {
            s.due(x, at[room], "doors", 1, room);
        }
    }

    /** One in a room of 1, 2, 3 and a door between 1 and 2; another in 7 has two lids to shut. */
    private static WhoOpensOne before(int kind, int room, boolean open) {
        return Sentences.house("door " + kind + " 1 2" + (open ? " open" : "") + "; door 1 7 7 open; door 1 7 7 open; one " + room
                + "; one 7; law 2");
    }

    private static void shutting(Sentences s) {
        s.terms("One may SHUT an OPEN DOOR that is AT their ROOM: CAT only from B, GREAT never.");
        for (int kind = 0; kind < 6; kind++) {
            for (int room = 1; room <= 3; room++) {
                int may = room < 3 ? SHUTS[kind][room - 1] : 0;
                WhoOpensOne x = before(kind, room, true);
                s.due(x, may, "may", 0, 0, 1);
                s.due(x, 6 | may, "doors", 2, 0);
                s.due(x, may == 1 ? 2 : STUCK, "shut", 0, 0);
                s.due(x, may == 1 ? 6 : 7, "doors", 0, 0);
                s.due(before(kind, room, false), 0, "may", 0, 0, 1);
                s.due(before(kind, room, false), 6, "doors", 2, 0);
                s.due(before(kind, room, false), STUCK, "shut", 0, 0);
            }
        }
    }

    private static void walking(Sentences s) {
        s.terms("One may WALK through an OPEN DOOR AT their ROOM to its other one: LID never.");
        for (int kind = 0; kind < 6; kind++) {
            for (int room = 1; room <= 3; room++) {
                int may = room < 3 ? WALKS[kind][room - 1] : 0;
                WhoOpensOne x = before(kind, room, true);
                s.due(x, may, "may", 0, 0, 0);
                s.due(x, may == 1 ? 3 - room : STUCK, "walk", 0, 0);
                s.due(x, may == 1 ? 3 - room : room, "where", 0);
                s.due(x, 7, "doors", 0, 0);
                s.due(before(kind, room, false), 0, "may", 0, 0, 0);
                s.due(before(kind, room, false), STUCK, "walk", 0, 0);
            }
        }
    }

    private static void opening(Sentences s) {
        s.terms("One may OPEN a DOOR (not OPEN) AT their ROOM: BOLT only from A;");
        for (int kind = 0; kind < 6; kind++) {
            for (int room = 1; room <= 3; room++) {
                int may = room < 3 ? OPENS[kind][room - 1] : 0;
                WhoOpensOne x = before(kind, room, false);
                s.due(x, may, "may", 0, 0, 2);
                s.due(x, may, "by", 0, 0, 6);
                s.due(x, may, "ways", 0, 0, 0);
                s.due(x, may == 1 ? 6 : STUCK, "ways", 0, 0, 1);
                s.due(x, 0, "may", 1, 0, 2);
                int stock = kind == 5 ? 0 : WEIGHTS[kind];
                s.due(x, may == 1 ? stock : STUCK, "open", 0, 0, 6);
                x = before(kind, room, true);
                s.due(x, 0, "may", 0, 0, 2);
                s.due(x, 0, "by", 0, 0, 6);
                s.due(x, 0, "ways", 0, 0, 0);
                s.due(x, STUCK, "ways", 0, 0, 1);
                s.due(x, STUCK, "open", 0, 0, 6);
            }
        }
    }

    private static void setsOfOthers(Sentences s) {
        s.terms("by a set of other DOORS (bits) that are OPEN, each of which somebody may SHUT at that moment");
        WhoOpensOne x = Sentences.house("door 0 1 2; door 1 1 1 open; door 1 1 1; door 1 3 3 open; door 5 1 2 open; door 4 1 2 open;"
                + "door 2 2 3 open; one 1; law 1");
        s.due(x, 1, "by", 0, 0, 2);
        int[] never = {1, 3, 4, 6, 8, 10, 16, 18, 32, 34, 64, 66, 0};
        for (int set : never) {
            s.due(x, 0, "by", 0, 0, set);
        }
        s.due(x, 1, "ways", 0, 0, 0);
        s.due(x, 1, "one", 3);
        s.due(x, 1, "by", 0, 0, 8);
        s.due(x, 1, "by", 0, 0, 64);
        s.due(x, 3, "ways", 0, 0, 0);

        s.terms("(each by anyone who is there; one may SHUT several),");
        x = Sentences.house("door 0 1 2; door 1 3 3 open; door 1 5 5 open; door 1 5 5 open; door 1 1 1 open; one 1; one 3; one 5");
        s.due(x, 1, "by", 0, 0, 12);
        s.due(x, 1, "by", 0, 0, 6);
        s.due(x, 1, "by", 0, 0, 18);
        s.due(x, 2, "ask", 0, 4);
        s.due(x, 1, "by", 0, 0, 30);
        s.due(x, 5, "move", 2, 4);
        s.due(x, 0, "by", 0, 0, 30);
        s.due(x, 4, "ask", 0, 2);
        s.due(x, 0, "by", 0, 0, 12);
        s.due(x, 0, "by", 0, 0, 6);
        s.due(x, 1, "by", 0, 0, 18);
    }

    /** 0 is to be opened; 1 to 4 weigh 1, 5 to 7 weigh 2, 8 is a cat that can be shut, too. */
    private static WhoOpensOne rich() {
        return Sentences.house("door 0 1 2; door 1 1 1 open; door 0 1 4 open; door 3 1 5 open; door 3 6 1 open;"
                + "door 2 1 2 open; door 2 3 1 open; door 2 1 0 open; door 4 2 1 open; one 1");
    }

    private static boolean isEnoughAndNotTooMuch(int law, int singles, int gates) {
        int[][] right = {{10, 1}, {20, 1}, {30, 11, 2}, {40, 21, 2}};
        for (int r : right[law - 1]) {
            if (r == singles * 10 + gates) {
                return true;
            }
        }
        return false;
    }

    private static void setsByWeight(Sentences s) {
        s.terms("whose WEIGHTS together are L at least, but would be less than L without any one of them");
        for (int law = 1; law <= 4; law++) {
            WhoOpensOne x = rich();
            s.due(x, 2, "ask", 0, law);
            for (int set = 0; set < 256; set += 2) {
                boolean fits = isEnoughAndNotTooMuch(law, Integer.bitCount(set & 30), Integer.bitCount(set & 224));
                s.due(x, fits ? 1 : 0, "by", 0, 0, set);
            }
        }
        s.terms("(none is shut in vain; so CATS are never in it).");
        for (int law = 1; law <= 4; law++) {
            WhoOpensOne x = rich();
            s.due(x, 2, "ask", 0, law);
            s.due(x, 510, "doors", 2, 0);
            for (int set = 256; set < 512; set += 2) {
                s.due(x, 0, "by", 0, 0, set);
            }
        }
        for (int vain = 0; vain < 13; vain++) {
            WhoOpensOne x = new WhoOpensOne();
            for (int d = 0; d < 14; d++) {
                s.call(x, "door", d == vain ? 1 : 2, 1, 2);
                s.call(x, "stand", d, d < 13 ? 1 : 0);
            }
            s.call(x, "one", 1);
            int gate = vain == 0 ? 1 : 0;
            s.due(x, 1, "by", 0, 13, 1 << gate);
            s.due(x, 0, "by", 0, 13, 1 << gate | 1 << vain);
            s.due(x, 0, "by", 0, 13, 1 << vain);
        }
    }

    private static void done(Sentences s) {
        s.terms("These are shut then, and the DOOR is OPEN.");
        WhoOpensOne x = Sentences.house("door 2 1 2; door 0 1 3 open; door 1 5 5 open; door 0 1 4 open; door 0 1 4; one 1; one 5");
        s.due(x, 3, "open", 0, 0, 6);
        s.due(x, 9, "doors", 0, 0);
        s.due(x, 1, "where", 0);
        s.due(x, 5, "where", 1);
        s.due(x, 2, "open", 0, 1, 1);
        s.due(x, 10, "doors", 0, 0);
    }

    private static void reach(Sentences s) {
        s.terms("REACH of one: ROOMS to which they can WALK, as all is, theirs, too.");
        WhoOpensOne x = Sentences.house("door 0 6 7 open; door 2 5 6 open; door 3 5 4 open; door 4 4 3 open; door 4 2 3 open;"
                + "door 5 2 1 open; door 3 0 1 open; door 0 7 0; one 0; one 7; one 3");
        s.due(x, 255, "reach", 0);
        s.due(x, 255, "reach", 1);
        s.due(x, 255, "reach", 2);
        s.due(x, 1, "stand", 3, 0);
        s.due(x, 15, "reach", 0);
        s.due(x, 240, "reach", 1);
        s.due(x, 1, "stand", 7, 1);
        s.due(x, 255, "reach", 1);
        x = Sentences.house("door 1 1 1 open; door 0 1 2; door 0 2 3 open; one 1");
        s.due(x, 2, "reach", 0);
        for (int room = 0; room < 8; room++) {
            s.call(x, "move", 0, room);
            s.due(x, room == 2 || room == 3 ? 12 : 1 << room, "reach", 0);
        }
    }
}
