import java.util.Random;

/** Promises 28 to 32 on drawn houses where much can be opened: everyone, every room, against the slow Oracle. */
public final class SearchTest {
    private static final int HOUSES = Integer.getInteger("houses", 1200);
    private static int wrong = 0;
    private static int rowsOfSeveral = 0;

    public static void main(String[] args) {
        Random random = new Random(28);
        for (int i = 0; i < HOUSES; i++) {
            tryHouse(random, i);
        }
        if (rowsOfSeveral < HOUSES / 20) {
            wrong++;
            System.out.println("the drawn houses are too easy: " + rowsOfSeveral);
        }
        System.out.println(wrong == 0 ? "every search as the oracle has it" : wrong + " searches differ");
        if (wrong != 0) {
            System.exit(1);
        }
    }

    private static void tryHouse(Random random, int house) {
        WhoOpensOne x = new WhoOpensOne();
        Oracle o = new Oracle();
        int rooms = 3 + random.nextInt(5);
        int doors = 4 + random.nextInt(6);
        for (int d = 0; d < doors; d++) {
            int a = random.nextInt(rooms);
            int b = (a + 1 + random.nextInt(rooms - 1)) % rooms;
            int kind = random.nextInt(3) == 0 ? random.nextInt(6) : 2 * random.nextInt(2);
            x.door(kind, a, b);
            o.door(kind, a, b);
            boolean open = random.nextInt(5) < 2;
            x.stand(d, open);
            o.stand(d, open);
        }
        int people = 1 + random.nextInt(3);
        for (int p = 0; p < people; p++) {
            int room = random.nextInt(rooms);
            x.one(room);
            o.one(room);
        }
        int law = 1 + random.nextInt(3) * random.nextInt(2) + random.nextInt(2);
        x.ask(0, law);
        o.ask(0, law);
        for (int p = 0; p < people; p++) {
            for (int room = 0; room < rooms; room++) {
                int due = o.coming(p, room);
                rowsOfSeveral += due > 1 ? 1 : 0;
                same(house, "coming", x.coming(p, room), due);
                same(house, "first", x.first(p, room), o.first(p, room));
            }
            same(house, "all", x.all(p), o.all(p));
            for (int tries = 0; tries < 3; tries++) {
                int n = 1 + random.nextInt(4);
                x.row(0, 0, n);
                o.row(0, 0, n);
                for (int i = 0; i < n; i++) {
                    int room = random.nextInt(rooms);
                    x.set(0, i, room);
                    o.set(0, i, room);
                }
                same(house, "errands", x.errands(p, 0, n), o.errands(p, 0, n));
            }
        }
        same(house, "lost", x.lost(), o.lost());
    }

    private static void same(int house, String what, int got, int due) {
        if (got != due) {
            wrong++;
            System.out.println("house " + house + ": " + what + " answered " + got + ", the oracle " + due);
        }
    }
}
