import java.util.ArrayList;
import java.util.List;

/** Promises 33 to 38 on every mixture of up to six doors, and on fuller houses, against the slow Oracle. */
public final class LastsTest {
    private static int wrong = 0;

    public static void main(String[] args) {
        for (int singles = 0; singles <= 6; singles++) {
            for (int gates = 0; singles + gates <= 6; gates++) {
                for (int greats = 0; singles + gates + greats <= 6; greats++) {
                    for (int cats = 0; singles + gates + greats + cats <= 6; cats++) {
                        tryMixture(new int[] {singles, gates, greats, cats});
                    }
                }
            }
        }
        tryFull();
        System.out.println(wrong == 0 ? "LASTS as the oracle has it" : wrong + " answers differ");
        if (wrong != 0) {
            System.exit(1);
        }
    }

    private static void tryMixture(int[] counts) {
        int[] open = new int[4];
        for (open[0] = 0; open[0] <= counts[0]; open[0]++) {
            for (open[1] = 0; open[1] <= counts[1]; open[1]++) {
                for (open[2] = 0; open[2] <= counts[2]; open[2]++) {
                    for (open[3] = 0; open[3] <= counts[3]; open[3]++) {
                        tryLaws(counts, open, false);
                    }
                }
            }
        }
    }

    private static void tryFull() {
        for (int singles = 0; singles <= 14; singles += 2) {
            for (int gates = 0; singles + gates <= 14; gates += 2) {
                int idle = 14 - singles - gates;
                int[] counts = {singles, gates, idle / 2, idle - idle / 2};
                tryLaws(counts, new int[] {singles, gates, 0, 0}, true);
                tryLaws(counts, new int[] {singles / 2, gates / 3, idle / 4, 0}, true);
                tryLaws(counts, new int[] {singles - singles / 4, 0, idle / 2, idle / 3}, true);
            }
        }
    }

    private static void tryLaws(int[] counts, int[] open, boolean boxes) {
        WhoOpensOne x = new WhoOpensOne();
        Oracle o = new Oracle();
        int[] kinds = {0, 2, 5, 4};
        for (int g = 0; g < 4; g++) {
            for (int i = 0; i < counts[g]; i++) {
                int kind = g == 0 && i % 3 == 1 ? 1 : g == 0 && i % 3 == 2 ? 3 : kinds[g];
                int d = x.door(kind, i % 8, (i + 1) % 8);
                o.door(kind, i % 8, (i + 1) % 8);
                x.stand(d, i < open[g]);
                o.stand(d, i < open[g]);
            }
        }
        List<String> house = new ArrayList<>(List.of(java.util.Arrays.toString(counts), java.util.Arrays.toString(open)));
        same(house, "endless", x.endless(), o.endless());
        same(house, "stock", x.stock(), o.stock());
        for (int law = 1; law <= 4; law++) {
            x.ask(0, law);
            o.ask(0, law);
            same(house, "lasts", x.lasts(), o.lasts());
            if (boxes || counts[0] + counts[1] + counts[2] + counts[3] <= 3) {
                for (int n = 1; n <= 40; n += boxes ? 13 : 5) {
                    same(house, "boxes " + n, x.boxes(n), o.boxes(n));
                }
            }
        }
    }

    private static void same(List<String> house, String what, int got, int due) {
        if (got != due) {
            wrong++;
            System.out.println(house + ": " + what + " answered " + got + ", the oracle " + due);
        }
    }
}
