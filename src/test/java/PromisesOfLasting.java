import java.util.function.Supplier;

/** Promises 33 to 38: the stock, how long it lasts, what a door is worth, which can be spared, boxes. */
final class PromisesOfLasting {
    private static final int NONE = Sentences.NONE;
    private static final int BAD = Sentences.BAD;
    private static final int STUCK = Sentences.STUCK;

    private PromisesOfLasting() {
    }

    static void tryAll(Sentences s) {
        stock(s);
        worth(s);
        spare(s);
        boxes(s);
    }

    private static WhoOpensOne some() {
        return TermsOfTellingAndDraws.furnished();
    }

    private static final Supplier<WhoOpensOne> SOME = PromisesOfLasting::some;

    private static WhoOpensOne mixture(int law, int... kindOpenShut) {
        return TermsOfWhatCanBe.mixture(law, kindOpenShut);
    }

    private static void stock(Sentences s) {
        s.promise(33, "STOCK.");
        s.due(some(), 4, "stock");
        s.due(new WhoOpensOne(), 0, "stock");
        s.due(mixture(1, 2, 14, 0), 28, "stock");
        s.due(mixture(1, 5, 7, 0, 4, 7, 0), 0, "stock");

        s.promise(34, "LASTS.");
        WhoOpensOne x = Sentences.house("door 0 1 2; door 2 1 3 open; door 1 1 1 open; door 3 1 4 open; one 1");
        // The gate for a door, then three of weight 1: two for the gate, the gate for a door, and so on down to 1.
        s.due(x, 5, "lasts");
        s.due(x, 14, "doors", 0, 0);
        s.due(x, 0, "status", 5);
        s.due(new WhoOpensOne(), 0, "lasts");
        s.due(mixture(2, 2, 7, 7), 99, "lasts");

        s.promise(37, "ENDLESS.");
        s.due(x, 2, "endless");
        s.due(mixture(4, 2, 1, 1), 6, "endless");
        s.due(mixture(4, 0, 14, 0), 0, "endless");
        s.due(new WhoOpensOne(), 0, "endless");
    }

    private static void worth(Sentences s) {
        s.promise(35, "WORTH (may be below 0).");
        WhoOpensOne x = Sentences.house("door 0 1 2; door 2 1 3 open; door 1 1 1 open; door 3 1 4 open; door 5 1 2 open; door 4 1 2 open");
        int[] due = {0, 3, 2, 2, 0, 0};
        for (int d = 1; d < 6; d++) {
            s.due(x, due[d], "worth", d);
        }
        s.due(x, 62, "doors", 0, 0);
        s.due(mixture(2, 0, 2, 0, 5, 1, 0), -1, "worth", 2);
        s.due(mixture(1, 0, 2, 0), -99, "worth", 1);
        s.due(mixture(1, 0, 1, 13), 99, "worth", 0);

        s.promise(35, "-1000002; -1000005: it isn't OPEN (counted as BAD, STUCK).");
        s.refuses(SOME, -1000002, "worth", 6);
        s.refuses(SOME, -1000002, "worth", -1);
        s.refuses(SOME, -1000002, "worth", 14);
        s.refuses(SOME, -1000005, "worth", 0);
        s.refuses(WhoOpensOne::new, -1000002, "worth", 0);
        for (int far : Sentences.FAR) {
            s.refuses(SOME, -1000002, "worth", far);
        }
    }

    private static void spare(Sentences s) {
        s.promise(36, "The OPEN DOOR of the least WORTH, of several the first.");
        s.due(mixture(2, 0, 3, 1, 4, 2, 0), 4, "spare");
        s.due(mixture(2, 0, 3, 1), 0, "spare");
        s.due(mixture(2, 2, 1, 0, 0, 2, 2), 1, "spare");
        s.due(mixture(2, 0, 2, 0, 5, 1, 0), 2, "spare");
        s.due(mixture(2, 5, 1, 0, 0, 2, 0), 0, "spare");
        s.due(mixture(1, 4, 1, 0, 0, 2, 0), 0, "spare");
        s.due(mixture(2, 0, 0, 13, 5, 1, 0), 13, "spare");
        s.due(mixture(2, 0, 14, 0), 0, "spare");
        WhoOpensOne x = Sentences.house("door 0 1 2; door 2 1 3 open; door 1 1 1 open; door 3 1 4 open; door 4 1 2 open");
        s.due(x, 4, "spare");
        s.due(x, 30, "doors", 0, 0);
        s.due(x, 1, "stand", 4, 0);
        s.due(x, 2, "spare");
        s.promise(36, "STUCK: none is OPEN.");
        s.refuses(WhoOpensOne::new, STUCK, "spare");
        s.refuses(() -> mixture(2, 0, 0, 14), STUCK, "spare");
    }

    private static void boxes(Sentences s) {
        s.promise(38, "How many DOORS more of KIND 0, OPEN, it would need (0 to 20; more than 14 DOORS, too) so that LASTS is n "
                + "(1 to 98) at least;");
        WhoOpensOne x = mixture(2, 0, 0, 1);
        for (int n = 1; n <= 19; n++) {
            s.due(x, n + 1, "boxes", n);
        }
        s.due(x, 1, "status", 0);
        s.due(x, 0, "doors", 0, 0);
        s.due(mixture(2, 0, 3, 1), 0, "boxes", 1);
        s.due(mixture(2, 0, 3, 1), 0, "boxes", 2);
        s.due(mixture(2, 0, 3, 1), 1, "boxes", 3);
        s.due(mixture(4, 0, 0, 1), 4, "boxes", 1);
        s.due(mixture(4, 0, 0, 1), 19, "boxes", 6);
        s.due(mixture(1, 0, 0, 1), 1, "boxes", 98);
        s.due(mixture(1, 0, 1, 1), 0, "boxes", 98);
        s.due(mixture(2, 0, 0, 14), 20, "boxes", 19);
        s.due(mixture(2, 0, 10, 4), 10, "boxes", 19);
        s.due(mixture(2, 2, 0, 2), 2, "boxes", 98);
        s.due(mixture(3, 2, 0, 7, 4, 0, 4, 5, 0, 3), 20, "boxes", 18);
        s.due(mixture(3, 2, 7, 0, 4, 0, 7), 20, "boxes", 25);
        s.due(mixture(2, 0, 0, 0, 5, 0, 1), 2, "boxes", 1);
        s.due(mixture(1, 5, 0, 14), 2, "boxes", 98);

        s.promise(38, "NONE: with no such number.");
        s.due(x, NONE, "boxes", 20);
        s.due(x, NONE, "boxes", 98);
        s.due(new WhoOpensOne(), NONE, "boxes", 1);
        s.due(mixture(2, 0, 14, 0), NONE, "boxes", 1);
        s.due(mixture(2, 5, 14, 0), NONE, "boxes", 1);
        s.due(mixture(4, 0, 0, 1), NONE, "boxes", 7);
        s.due(mixture(3, 2, 0, 7, 4, 0, 4, 5, 0, 3), NONE, "boxes", 19);
        s.due(x, 0, "status", 12);
        s.due(x, 0, "status", 15);

        s.promise(38, "BAD.");
        s.refuses(SOME, BAD, "boxes", 0);
        s.refuses(SOME, BAD, "boxes", 99);
        s.refuses(SOME, BAD, "boxes", -1);
        s.refuses(WhoOpensOne::new, BAD, "boxes", 0);
        for (int far : Sentences.FAR) {
            s.refuses(SOME, BAD, "boxes", far);
        }
    }
}
