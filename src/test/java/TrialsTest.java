import java.util.Random;

/** Promises 21, 22, 23. */
public final class TrialsTest {
    private static final Checks CHECKS = new Checks();
    private static final String LAKE = "lake 3;row hsd;row slw;boat a trust 15 at 0 0;boat b trust 5 at 0 0;"
        + "storm at 3;dread depth*10+wreck*5+sky*4+balks;";

    public static void main(String[] args) {
        plain();
        refusals();
        asAllIsNow();
        for (int seed = 0; seed < 300; seed++) {
            byChance(new Random(seed));
        }
        CHECKS.finish();
    }

    private static void plain() {
        ShyBoats x = Checks.onLake(LAKE);
        CHECKS.due("rows", Checks.trials(x, 1, 1, 1, 5, 0), 2);
        CHECKS.due("told", x.has(10), 2);
        CHECKS.due("the tape goes", x.end(1), false);
        CHECKS.due("many", x.trusts(0), 15);
        CHECKS.due("least", x.trusts(1), 10);
        CHECKS.due("greatest", x.trusts(2), 24);
        CHECKS.due("next", x.next(0), 2);
        CHECKS.due("alike", x.next(1), 10);
        CHECKS.due("of like ones the first", Checks.trials(x, 0, 0, 1), 1);
        CHECKS.due("all can be", x.trusts(0), 100);
        CHECKS.due("next is the wreck", x.next(0), 5);
        CHECKS.due("75 do alike", x.next(1), 75);
        Checks.trials(x, 0, 1, 0, 3, 1);
        CHECKS.due("none can be", x.trusts(0), 0);
        CHECKS.due("no least", x.trusts(1), -1);
        CHECKS.due("no greatest", x.trusts(2), -1);
        CHECKS.due("no next", x.next(0), -1);
        CHECKS.due("no alike", x.next(1), -1);
        Checks.trials(x, 0, 0, 0);
        CHECKS.due("it goes to harbours always", x.trusts(0), 0);
        int[] twenty = new int[40];
        CHECKS.due("twenty rows", Checks.trials(x, 0, twenty), 20);
    }

    private static void refusals() {
        ShyBoats x = Checks.onLake(LAKE);
        CHECKS.due("ahead of any", x.trusts(0), -1);
        CHECKS.due("ahead of any", x.trusts(1), -1);
        CHECKS.due("ahead of any", x.next(0), -1);
        Checks.trials(x, 0, 1, 1);
        int[][] rows = {{}, {1}, {1, 1, 1}, {1, 2}, {1, 255}, {4, 1}, {6, 1}, {255, 0}, {1, 1, 4, 0}, {1, 1, 2, 2}, new int[42]};
        for (int[] row : rows) {
            CHECKS.due("no trials " + row.length, Checks.trials(x, 0, row), -1);
            CHECKS.due("the tape goes", x.end(1), false);
        }
        CHECKS.due("no boat", Checks.trials(x, 2, 1, 1), -1);
        CHECKS.due("no boat", Checks.trials(x, -1, 1, 1), -1);
        CHECKS.due("refused", x.status(1), rows.length + 2);
        CHECKS.due("all stays", x.has(10), 1);
        CHECKS.due("all stays", x.trusts(1), 10);
        CHECKS.due("what 3", x.trusts(3), -1);
        CHECKS.due("what -1", x.trusts(-1), -1);
        CHECKS.due("next what 2", x.next(2), -1);
        CHECKS.due("next what -1", x.next(-1), -1);
    }

    private static void asAllIsNow() {
        ShyBoats x = Checks.onLake(LAKE);
        Checks.trials(x, 1, 1, 1);
        x.go(1, 1);
        CHECKS.due("it balked", x.trusts(1), 11);
        x.hours(3);
        CHECKS.due("it storms", x.trusts(1), 23);
        x.undo();
        x.undo();
        CHECKS.due("it did neither", x.trusts(1), 10);
        int[] image = Checks.imageOf(x);
        Checks.on(x, image);
        CHECKS.due("an image tells nothing of trials", x.trusts(1), 10);
    }

    private static void byChance(Random random) {
        String text = Chance.lake(random, 2, 1) + Chance.someDread(random);
        ShyBoats x = Checks.onLake(text);
        x.hours(1 + random.nextInt(12));
        int boat = random.nextInt(2);
        int cells = x.has(0) * x.has(1);
        int trust = random.nextInt(100);
        int[] rows = new int[2 * (1 + random.nextInt(4))];
        for (int i = 0; i < rows.length; i += 2) {
            do {
                rows[i] = random.nextInt(cells);
            } while (x.cell(rows[i], 0) < 0);
            boolean goes = x.dread(boat, rows[i], -1) <= trust;
            rows[i + 1] = goes != (random.nextInt(12) == 0) ? 1 : 0;
        }
        CHECKS.due("rows in " + text, Checks.trials(x, boat, rows), rows.length / 2);
        boolean[] can = new boolean[100];
        int many = 0;
        int least = -1;
        int greatest = -1;
        for (int t = 0; t < 100; t++) {
            can[t] = true;
            for (int i = 0; i < rows.length; i += 2) {
                can[t] &= (x.dread(boat, rows[i], -1) <= t ? 1 : 0) == rows[i + 1];
            }
            if (can[t]) {
                many++;
                least = least < 0 ? t : least;
                greatest = t;
            }
        }
        CHECKS.due("many in " + text, x.trusts(0), many);
        CHECKS.due("least in " + text, x.trusts(1), least);
        CHECKS.due("greatest in " + text, x.trusts(2), greatest);
        checkNext(x, text, boat, can, many);
    }

    private static void checkNext(ShyBoats x, String text, int boat, boolean[] can, int many) {
        int fewest = 101;
        int next = -1;
        for (int cell = 0; cell < x.has(0) * x.has(1); cell++) {
            int go = 0;
            for (int t = 0; t < 100; t++) {
                go += can[t] && x.dread(boat, cell, -1) <= t ? 1 : 0;
            }
            int alike = Math.max(go, many - go);
            if (x.cell(cell, 0) >= 0 && alike < fewest) {
                fewest = alike;
                next = cell;
            }
        }
        CHECKS.due("next in " + text, x.next(0), many == 0 ? -1 : next);
        CHECKS.due("alike in " + text, x.next(1), many == 0 ? -1 : fewest);
    }
}
