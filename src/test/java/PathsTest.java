import java.util.ArrayList;
import java.util.Arrays;
import java.util.List;
import java.util.Random;

/** THE SHORTEST in towns with thousands of standings, which the oracle is too slow for: found from its end backwards. */
public final class PathsTest extends Town {
    private static final int TOWNS = 24;
    private static final int UNKNOWN = -1;
    private static final int[][] BRIMS = {
        {99, 99, 1, 0, 0, 0}, {25, 25, 25, 0, 0, 0}, {9, 9, 9, 9, 1, 0}, {4, 4, 4, 4, 4, 4}, {99, 1, 1, 1, 1, 1}, {11, 10, 11, 11, 0, 0}};

    private final int[] kind = new int[6];
    private final int[] brim;
    private final int[] begin = new int[6];
    private final int[] end = new int[6];
    private final DyeVats town = new DyeVats();

    private PathsTest(Random chance) {
        brim = shuffled(BRIMS[chance.nextInt(BRIMS.length)], chance);
        boolean plain = chance.nextInt(3) == 0;
        boolean near = chance.nextInt(2) == 0;
        for (int v = 0; v < 6; v++) {
            kind[v] = plain ? 0 : chance.nextInt(4);
            begin[v] = chance.nextInt(brim[v] + 1);
            int far = chance.nextInt(brim[v] + 1);
            int close = Math.max(0, Math.min(brim[v], begin[v] + chance.nextInt(5) - 2));
            end[v] = near ? close : far;
            town.vat(v, kind[v], brim[v], begin[v]);
        }
    }

    public static void main(String[] args) {
        Random chance = new Random(12);
        int towns = args.length > 0 ? Integer.parseInt(args[0]) : TOWNS;
        int wrong = 0;
        for (int i = 0; i < towns; i++) {
            PathsTest one = new PathsTest(chance);
            List<Integer> got = one.answered();
            List<Integer> want = one.wanted();
            if (!got.equals(want)) {
                wrong++;
                System.out.println("KINDS " + Arrays.toString(one.kind) + ", BRIMS " + Arrays.toString(one.brim) + ", from " + Arrays.toString(one.begin)
                    + " to " + Arrays.toString(one.end) + ": answered " + got + ", due is " + want);
            }
        }
        System.out.println(wrong == 0 ? "all rows of ACTS are the shortest" : wrong + " rows are wrong");
        if (wrong != 0) {
            System.exit(1);
        }
    }

    private static int[] shuffled(int[] row, Random chance) {
        int[] mixed = row.clone();
        for (int i = 5; i > 0; i--) {
            int j = chance.nextInt(i + 1);
            int x = mixed[i];
            mixed[i] = mixed[j];
            mixed[j] = x;
        }
        return mixed;
    }

    private List<Integer> answered() {
        List<Integer> row = new ArrayList<>();
        int acts = shortest(town, -1, end);
        row.add(acts);
        for (int i = 0; i < acts; i++) {
            row.add(shortest(town, i, end));
        }
        return row;
    }

    // How far each standing is from the end is known first; then the lowest ACT that comes nearer is the one that is due.
    private List<Integer> wanted() {
        int[][] ways = allWays();
        int[] far = farFromEnd(ways);
        int at = indexOf(begin);
        if (far[at] == UNKNOWN) {
            return List.of(-2);
        }
        List<Integer> row = new ArrayList<>(List.of(far[at]));
        while (far[at] > 0) {
            int act = 0;
            while (far[ways[at][act]] != far[at] - 1) {
                act++;
            }
            row.add(act);
            at = ways[at][act];
        }
        return row;
    }

    private int[][] allWays() {
        int[][] ways = new int[indexOf(brim) + 1][84];
        for (int at = 0; at < ways.length; at++) {
            for (int act = 0; act < 84; act++) {
                ways[at][act] = indexOf(behind(measuresOf(at), act));
            }
        }
        return ways;
    }

    private int[] farFromEnd(int[][] ways) {
        int[] far = new int[ways.length];
        Arrays.fill(far, UNKNOWN);
        far[indexOf(end)] = 0;
        for (int acts = 1; acts <= 100; acts++) {
            for (int at = 0; at < far.length; at++) {
                if (far[at] == UNKNOWN && leadsTo(acts - 1, ways[at], far)) {
                    far[at] = acts;
                }
            }
        }
        return far;
    }

    private static boolean leadsTo(int distance, int[] ways, int[] far) {
        for (int to : ways) {
            if (far[to] == distance) {
                return true;
            }
        }
        return false;
    }

    private int indexOf(int[] measures) {
        int index = 0;
        for (int v = 0; v < 6; v++) {
            index = index * (brim[v] + 1) + measures[v];
        }
        return index;
    }

    private int[] measuresOf(int index) {
        int[] measures = new int[6];
        for (int v = 5, rest = index; v >= 0; v--) {
            measures[v] = rest % (brim[v] + 1);
            rest /= brim[v] + 1;
        }
        return measures;
    }

    private int[] behind(int[] m, int act) {
        if (act < 6) {
            m[act] = Math.min(m[act] + 1, brim[act]);
        } else if (act < 12) {
            m[act - 6] = Math.max(m[act - 6] - 1, 0);
        } else {
            int x = (act - 12) % 36 / 6;
            int y = act % 6;
            int poured = x == y ? 0 : Math.min(act < 48 ? m[x] : m[x] / 2, brim[y] - m[y]);
            m[x] -= poured;
            m[y] += poured;
        }
        for (int v = 0; v < 6; v++) {
            if (kind[v] == 1 && m[v] > 0) {
                m[v]--;
            }
        }
        for (int v = 0; v < 6; v++) {
            int next = (v + 1) % 6;
            if (kind[v] == 3 && m[v] - m[next] >= 2 && m[next] < brim[next]) {
                m[v]--;
                m[next]++;
            }
        }
        return m;
    }
}
