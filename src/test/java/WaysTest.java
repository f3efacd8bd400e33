import java.util.ArrayList;
import java.util.List;
import java.util.Random;

/** Promises 15, 16, 17. */
public final class WaysTest {
    private static final Checks CHECKS = new Checks();

    public static void main(String[] args) {
        plainWays();
        refusals();
        for (int seed = 0; seed < 300; seed++) {
            byChance(new Random(seed));
        }
        CHECKS.finish();
    }

    private static void plainWays() {
        // 0 h  1 s  2 s
        // 3 s  4 d  5 s
        // 6 s  7 s  8 l
        ShyBoats x = Checks.onLake("lake 3;row hss;row sds;row ssl;boat a trust 12 at 0 0;boat b trust 9 at 0 0;"
            + "boat c trust 25 at 0 0;coax 4;");
        row(x, 0, 5, 1, 2, 5);
        row(x, 2, 5, 1, 2, 5);
        row(x, 0, 7, 3, 6, 7);
        row(x, 2, 7, 1, 4, 7);
        row(x, 0, 0);
        CHECKS.due("too deep", x.route(0, 4, -1), -1);
        CHECKS.due("nowhere", x.route(1, 1, -1), -1);
        CHECKS.due("to where it is", x.route(1, 0, -1), 0);
        CHECKS.due("no first cell", x.route(1, 0, 0), -1);
        CHECKS.due("gentle", x.gentle(1, 7, 0), 10);
        CHECKS.due("one coin", x.gentle(1, 7, 1), 1);
        CHECKS.due("deep", x.gentle(1, 4, 0), 20);
        CHECKS.due("three coins", x.gentle(1, 4, 1), 3);
        CHECKS.due("two coins reach it just", x.gentle(0, 4, 1), 2);
        CHECKS.due("no coin", x.gentle(2, 4, 1), 0);
        CHECKS.due("where it is", x.gentle(2, 0, 0), 0);
        CHECKS.due("where it is, coins", x.gentle(2, 0, 1), 0);
        x.go(2, 3);
        x.go(2, 4);
        CHECKS.due("runs", x.runs(2, 0), 0);
        CHECKS.due("in two steps", x.runs(2, 1), 2);
        CHECKS.due("it is still there", x.boat(2, 0), 4);
        CHECKS.due("where it is dreads none", x.gentle(2, 4, 0), 0);
        ShyBoats y = Checks.onLake("lake 3;row lsl;row shs;row lsl;boat a trust 50 at 1 1;dread depth*(10-home*20)+30;");
        CHECKS.due("of like ones the first", y.runs(0, 0), 1);
        CHECKS.due("one step", y.runs(0, 1), 1);
        ShyBoats z = Checks.onLake("lake 3;row hlh;row sls;boat a trust 99 at 0 0;");
        CHECKS.due("no way", z.gentle(0, 2, 0), -1);
        CHECKS.due("no way, coins", z.gentle(0, 5, 1), -1);
        CHECKS.due("no route", z.route(0, 5, -1), -1);
        CHECKS.due("stays", z.runs(0, 1), 0);
    }

    private static void row(ShyBoats x, int boat, int cell, int... due) {
        CHECKS.due("steps to " + cell, x.route(boat, cell, -1), due.length);
        for (int k = 0; k < due.length; k++) {
            CHECKS.due("step " + k + " to " + cell, x.route(boat, cell, k), due[k]);
        }
        CHECKS.due("behind the last to " + cell, x.route(boat, cell, due.length), -1);
    }

    private static void refusals() {
        ShyBoats x = Checks.onLake("lake 3;row hsl;row shd;boat a trust 15 at 0 0;");
        int[][] none = {{-1, 0}, {1, 0}, {0, -1}, {0, 6}, {0, 2}};
        for (int[] row : none) {
            CHECKS.due("no such route", x.route(row[0], row[1], -1), -1);
            CHECKS.due("no such way", x.gentle(row[0], row[1], 0), -1);
            CHECKS.due("no such coins", x.gentle(row[0], row[1], 1), -1);
        }
        CHECKS.due("k -2", x.route(0, 1, -2), -1);
        CHECKS.due("k lowest", x.route(0, 1, Integer.MIN_VALUE), -1);
        CHECKS.due("k highest", x.route(0, 1, Integer.MAX_VALUE), -1);
        CHECKS.due("what 2", x.gentle(0, 1, 2), -1);
        CHECKS.due("what -1", x.gentle(0, 1, -1), -1);
        CHECKS.due("runs what 2", x.runs(0, 2), -1);
        CHECKS.due("runs what -1", x.runs(0, -1), -1);
        CHECKS.due("runs boat 1", x.runs(1, 0), -1);
        CHECKS.due("runs boat -1", x.runs(-1, 0), -1);
    }

    private static void byChance(Random random) {
        String text = Chance.lake(random, 2, 1) + Chance.someDread(random) + "coax " + (1 + random.nextInt(9)) + ";";
        ShyBoats x = Checks.onLake(text);
        x.seed(random.nextInt(1000));
        x.drift(1 + random.nextInt(8));
        int boat = random.nextInt(2);
        int cells = x.has(0) * x.has(1);
        int[] fears = new int[cells];
        for (int cell = 0; cell < cells; cell++) {
            fears[cell] = x.dread(boat, cell, -1);
        }
        for (int cell = 0; cell < cells && cell < 14; cell++) {
            checkRoute(x, text, boat, cell, fears);
            checkGentle(x, text, boat, cell, fears);
        }
        checkRun(x, text, boat, fears);
    }

    private static List<Integer> beside(ShyBoats x, int cell) {
        List<Integer> all = new ArrayList<>();
        int columns = x.has(0);
        for (int other = 0; other < columns * x.has(1); other++) {
            int apart = Math.abs(other % columns - cell % columns) + Math.abs(other / columns - cell / columns);
            if (apart == 1 && x.cell(other, 0) >= 0) {
                all.add(other);
            }
        }
        return all;
    }

    /** Layer by layer, keeping the first row of CELLS to each: rows of one length by their order. */
    private static void checkRoute(ShyBoats x, String text, int boat, int to, int[] fears) {
        List<List<Integer>> layer = new ArrayList<>();
        layer.add(List.of(x.boat(boat, 0)));
        boolean[] seen = new boolean[fears.length];
        seen[x.boat(boat, 0)] = true;
        List<Integer> found = to == x.boat(boat, 0) ? layer.get(0) : null;
        while (found == null && !layer.isEmpty()) {
            List<List<Integer>> behind = new ArrayList<>();
            for (List<Integer> row : layer) {
                for (int cell : beside(x, row.get(row.size() - 1))) {
                    if (!seen[cell] && fears[cell] <= x.boat(boat, 1)) {
                        seen[cell] = true;
                        List<Integer> longer = new ArrayList<>(row);
                        longer.add(cell);
                        behind.add(longer);
                        found = cell == to ? longer : found;
                    }
                }
            }
            layer = behind;
        }
        CHECKS.due("steps in " + text, x.route(boat, to, -1), found == null ? -1 : found.size() - 1);
        for (int k = 1; found != null && k < found.size(); k++) {
            CHECKS.due("step " + k + " to " + to + " in " + text, x.route(boat, to, k - 1), found.get(k));
        }
    }

    private static boolean reaches(ShyBoats x, int from, int to, int[] fears, int most) {
        boolean[] seen = new boolean[fears.length];
        List<Integer> queue = new ArrayList<>(List.of(from));
        seen[from] = true;
        for (int i = 0; i < queue.size(); i++) {
            for (int cell : beside(x, queue.get(i))) {
                if (!seen[cell] && fears[cell] <= most) {
                    seen[cell] = true;
                    queue.add(cell);
                }
            }
        }
        return seen[to];
    }

    private static void checkGentle(ShyBoats x, String text, int boat, int to, int[] fears) {
        int due = 0;
        while (due < 100 && !reaches(x, x.boat(boat, 0), to, fears, due)) {
            due++;
        }
        boolean none = due == 100;
        CHECKS.due("gentlest to " + to + " in " + text, x.gentle(boat, to, 0), none ? -1 : due);
        int worth = x.coax(boat, 1);
        x.undo();
        int coin = Integer.parseInt(text.substring(text.lastIndexOf("coax ") + 5, text.length() - 1));
        CHECKS.due("a coin", worth, Math.min(99, x.boat(boat, 1) + coin));
        int coins = 0;
        while (!none && Math.min(99, x.boat(boat, 1) + coins * coin) < due) {
            coins++;
        }
        CHECKS.due("coins to " + to + " in " + text, x.gentle(boat, to, 1), none ? -1 : coins);
    }

    private static void checkRun(ShyBoats x, String text, int boat, int[] fears) {
        int at = x.boat(boat, 0);
        int steps = 0;
        boolean runs = true;
        while (runs) {
            int least = at;
            for (int cell : beside(x, at)) {
                least = fears[cell] < fears[least] ? cell : least;
            }
            runs = least != at;
            steps += runs ? 1 : 0;
            at = least;
        }
        CHECKS.due("runs to in " + text, x.runs(boat, 0), at);
        CHECKS.due("runs steps in " + text, x.runs(boat, 1), steps);
    }
}
