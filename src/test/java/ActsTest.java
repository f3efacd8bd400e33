import java.util.Arrays;
import java.util.Random;

/** Promises 24 to 31. */
public final class ActsTest {
    private static final Checks CHECKS = new Checks();
    private static final String LAKE = "lake 3;row hsd;row slh;boat a trust 15 at 0 0;boat b trust 5 at 0 0;boat c trust 40 at 2 1;"
        + "hand m skill 3;hand n skill 9;rain at 2;storm at 99;coax 7;";

    public static void main(String[] args) {
        going();
        balking();
        filing();
        filesRefused();
        coaxing();
        manning();
        passingHours();
        lastHours();
        lastDrifts();
        drifting();
        driftingRefused();
        undoing();
        undoingTwenty();
        seeding();
        for (int seed = 0; seed < 150; seed++) {
            undoByChance(new Random(seed));
        }
        CHECKS.finish();
    }

    private static void going() {
        ShyBoats x = Checks.onLake(LAKE);
        int[][] none = {{0, 0}, {0, 2}, {0, 4}, {0, 5}, {0, -1}, {0, 6}, {-1, 1}, {3, 1}, {2, 4}, {0, -3}, {0, Integer.MAX_VALUE},
            {0, Integer.MIN_VALUE}};
        for (int[] row : none) {
            CHECKS.due("can't go " + row[0] + " " + row[1], x.go(row[0], row[1]), -1);
        }
        CHECKS.due("refused", x.status(2), none.length);
        CHECKS.due("no act", x.has(11), 0);
        CHECKS.due("right", x.go(0, 1), 1);
        CHECKS.due("it is there", x.boat(0, 0), 1);
        CHECKS.due("no deeper", x.go(0, 2), 0);
        CHECKS.due("left", x.go(0, 0), 1);
        CHECKS.due("down", x.go(0, 3), 1);
        CHECKS.due("land", x.go(0, 4), -1);
        CHECKS.due("not over the edge", x.go(0, 2), -1);
        CHECKS.due("up", x.go(0, 0), 1);
        CHECKS.due("c up", x.go(2, 2), 1);
        CHECKS.due("not over the other edge", x.go(2, 3), -1);
        CHECKS.due("trust as it was", x.boat(0, 1), 15);
        CHECKS.due("balked once", x.boat(0, 2), 1);
        CHECKS.due("just as much is enough", x.coax(1, 1), 12);
        CHECKS.due("12 for 10", x.go(1, 1), 1);
    }

    private static void balking() {
        ShyBoats x = Checks.onLake("lake 3;row hsd;boat a trust 50 at 0 0;dread 51+balks;falls trust+balks*10-fear/10;");
        CHECKS.due("balks", x.go(0, 1), 0);
        CHECKS.due("balks as ahead of it", x.boat(0, 1), 45);
        CHECKS.due("once", x.boat(0, 2), 1);
        CHECKS.due("balks", x.go(0, 1), 0);
        CHECKS.due("once counted", x.boat(0, 1), 50);
        ShyBoats y = Checks.onLake("lake 3;row hsd;boat a trust 0 at 0 0;");
        for (int n = 1; n <= 105; n++) {
            y.go(0, 1);
            CHECKS.due("99 at most", y.boat(0, 2), Math.min(99, n));
        }
        CHECKS.due("of all", y.has(7), 99);
        ShyBoats z = Checks.onLake("lake 3;row hsd;boat a trust 50 at 0 0;grows trust*3;falls 0-1;dread depth*60-30;");
        z.go(0, 1);
        CHECKS.due("99 at most", z.boat(0, 1), 99);
        z.coax(0, 1);
        CHECKS.due("goes to 90", z.go(0, 2), 1);
        ShyBoats w = Checks.onLake("lake 3;row hsd;boat a trust 50 at 0 0;falls 0-1;dread 60;");
        w.go(0, 1);
        CHECKS.due("0 at least", w.boat(0, 1), 0);
    }

    private static void filing() {
        String text = "lake 3;row hsd;boat a trust 10 at 0 0;boat b trust 20 at 0 0;boat c trust 9 at 0 0;boat d trust 2 at 0 0;"
            + "dread depth*10+5-ahead*bold/4;grows trust+4;falls trust-bold/5;";
        ShyBoats x = Checks.onLake(text);
        CHECKS.due("two went", Checks.file(x, 1, 0, 1, 3, 2), 2);
        CHECKS.due("the tape goes", x.end(1), false);
        int[][] due = {{0, 10, 1}, {1, 24, 0}, {1, 13, 0}, {0, 0, 1}};
        for (int boat = 0; boat < 4; boat++) {
            for (int what = 0; what < 3; what++) {
                CHECKS.due("boat " + boat + " " + what, x.boat(boat, what), due[boat][what]);
            }
        }
        int[][] kept = {{0, 0}, {1, 1}, {3, 0}, {2, 1}};
        for (int k = 0; k < 4; k++) {
            CHECKS.due("kept boat " + k, x.kept(k, 1), kept[k][0]);
            CHECKS.due("kept cell " + k, x.kept(k, 2), 1);
            CHECKS.due("kept went " + k, x.kept(k, 3), kept[k][1]);
        }
        CHECKS.due("one act", x.has(11), 1);
        CHECKS.due("undone", x.undo(), true);
        CHECKS.due("nothing kept", x.has(9), 0);
        CHECKS.due("all in the harbour", x.cell(0, 3), 15);
        CHECKS.due("none went", Checks.file(x, 1, 3, 0), 0);
        CHECKS.due("an act all the same", x.has(11), 1);
        CHECKS.due("one alone", Checks.file(x, 1, 1), 1);
    }

    private static void filesRefused() {
        ShyBoats x = Checks.onLake(LAKE);
        int[][] rows = {{1}, {1, 0, 0}, {1, 0, 1, 0}, {1, 0, 2}, {1, 3}, {1, 255}, {2, 0}, {0, 0}, {4, 0}, {4, 2}, {-1, 0}, {6, 0},
            {1, 0, 1, 2, 0, 1, 2, 0}};
        for (int[] row : rows) {
            int[] boats = java.util.Arrays.copyOfRange(row, 1, row.length);
            CHECKS.due("no file", Checks.file(x, row[0], boats), -1);
            CHECKS.due("the tape goes", x.end(1), false);
        }
        CHECKS.due("refused", x.status(2), rows.length);
        CHECKS.due("no act", x.has(11), 0);
        CHECKS.due("nothing kept", x.has(9), 0);
    }

    private static void coaxing() {
        ShyBoats x = Checks.onLake(LAKE);
        CHECKS.due("a coin is worth 7", x.coax(0, 1), 22);
        CHECKS.due("two", x.coax(0, 2), 36);
        CHECKS.due("99 at most", x.coax(0, 99), 99);
        CHECKS.due("again", x.coax(0, 1), 99);
        CHECKS.due("paid", x.has(6), 103);
        int[][] none = {{0, 0}, {0, 100}, {0, -1}, {3, 1}, {-1, 1}, {0, Integer.MAX_VALUE}, {0, Integer.MIN_VALUE}};
        for (int[] row : none) {
            CHECKS.due("can't be", x.coax(row[0], row[1]), -1);
        }
        CHECKS.due("refused", x.status(3), none.length);
        CHECKS.due("paid", x.has(6), 103);
        CHECKS.due("acts", x.has(11), 4);
        CHECKS.due("5 without", Checks.onLake("lake 3;row hhh;boat a trust 0 at 0 0;").coax(0, 3), 15);
        CHECKS.due("the last one counts", Checks.onLake("lake 3;row hhh;boat a trust 0 at 0 0;coax 9;coax 2;").coax(0, 3), 6);
        int[] rich = Checks.sealed(0, 0, 15, 66, 50, 0, 15, 0, 0, 0, 5, 0, 0, 5, 40, 0, 0);
        CHECKS.due("rich", Checks.on(x, rich), true);
        CHECKS.due("paid", x.has(6), 999986);
        x.coax(1, 20);
        CHECKS.due("999999 at most", x.has(6), 999999);
    }

    private static void manning() {
        ShyBoats x = Checks.onLake(LAKE);
        int[][] none = {{0, -1}, {0, 2}, {0, -2}, {3, 0}, {-1, 0}, {-1, -1}, {3, -1}};
        for (int[] row : none) {
            CHECKS.due("none such", x.man(row[0], row[1]), false);
        }
        CHECKS.due("refused", x.status(3), none.length);
        CHECKS.due("m into a", x.man(0, 0), true);
        CHECKS.due("so already", x.man(0, 0), false);
        CHECKS.due("m is in a", x.hand(0, 1), 0);
        CHECKS.due("m into c", x.man(2, 0), true);
        CHECKS.due("a has none", x.boat(0, 3), -1);
        CHECKS.due("c has m", x.boat(2, 3), 0);
        CHECKS.due("n into c", x.man(2, 1), true);
        CHECKS.due("m is out", x.hand(0, 1), -1);
        CHECKS.due("n is in c", x.hand(1, 1), 2);
        CHECKS.due("n goes out", x.man(2, -1), true);
        CHECKS.due("n is out", x.hand(1, 1), -1);
        CHECKS.due("out already", x.man(2, -1), false);
        CHECKS.due("acts", x.has(11), 4);
        x.undo();
        CHECKS.due("n is in c again", x.hand(1, 1), 2);
        x.undo();
        CHECKS.due("m is in c again", x.boat(2, 3), 0);
        x.undo();
        CHECKS.due("m is in a again", x.boat(0, 3), 0);
        x.man(2, 1);
        x.man(1, 1);
        CHECKS.due("n left c", x.boat(2, 3), -1);
        CHECKS.due("n is in b", x.boat(1, 3), 1);
        x.man(1, -1);
        CHECKS.due("m is in a yet", x.boat(0, 3), 0);
        CHECKS.due("n is in none", x.hand(1, 1), -1);
    }

    private static void passingHours() {
        ShyBoats x = new ShyBoats();
        CHECKS.due("no lake", x.hours(1), -1);
        x = Checks.onLake(LAKE);
        int[] wrong = {0, -1, 201, Integer.MAX_VALUE, Integer.MIN_VALUE};
        for (int n : wrong) {
            CHECKS.due("can't be " + n, x.hours(n), -1);
        }
        CHECKS.due("refused", x.status(3), wrong.length);
        CHECKS.due("calm", x.hours(1), 0);
        CHECKS.due("rain", x.hours(1), 1);
        CHECKS.due("rain yet", x.hours(96), 1);
        CHECKS.due("storm", x.hours(1), 3);
        CHECKS.due("hour", x.has(4), 99);
        CHECKS.due("acts", x.has(11), 4);
        for (int n = 0; n < 4; n++) {
            CHECKS.due("storm", x.hours(200), 3);
        }
        CHECKS.due("hour", x.has(4), 899);
        CHECKS.due("a lake without boats", Checks.onLake("lake 3;").hours(200), 0);
    }

    /** HOURS are 999 at most: of more that are asked for none goes by, and it is no ACT. */
    private static void lastHours() {
        ShyBoats x = atHour(899);
        CHECKS.due("a hundred and one", x.hours(101), -1);
        CHECKS.due("two hundred", x.hours(200), -1);
        CHECKS.due("refused", x.status(3), 2);
        CHECKS.due("the hour stays", x.has(4), 899);
        CHECKS.due("no act", x.has(11), 0);
        CHECKS.due("up to the last", x.hours(100), 3);
        CHECKS.due("the last", x.has(4), 999);
        CHECKS.due("one more", x.hours(1), -1);
        CHECKS.due("the last yet", x.has(4), 999);
        CHECKS.due("acts", x.has(11), 1);
        CHECKS.due("a try there", x.go(0, 1), 1);
        CHECKS.due("kept then", x.kept(0, 0), 999);
        x.undo();
        x.undo();
        CHECKS.due("back", x.has(4), 899);
        CHECKS.due("and on", x.hours(99), 3);
        CHECKS.due("then one", x.hours(1), 3);
        CHECKS.due("refused", x.status(3), 3);
    }

    /** The seed stays, too, where DRIFTING can't be: what follows is as without it. */
    private static void lastDrifts() {
        for (int n = 1; n <= 50; n++) {
            ShyBoats x = atHour(999 - n);
            ShyBoats y = atHour(999 - n);
            int[] image = Checks.imageOf(x);
            CHECKS.due("one more than there are", n == 50 ? -1 : x.drift(n + 1), -1);
            CHECKS.due("refused", x.status(3), n == 50 ? 0 : 1);
            CHECKS.due("no act", x.has(11), 0);
            CHECKS.due("nothing kept", x.has(9), 0);
            CHECKS.due("nothing changes", Arrays.equals(Checks.imageOf(x), image), true);
            CHECKS.due("up to the last", x.drift(n), y.drift(n));
            CHECKS.due("some can be", x.has(11), 1);
            CHECKS.due("the last", x.has(4), 999);
            CHECKS.due("like the other", Arrays.equals(Checks.imageOf(x), Checks.imageOf(y)), true);
            CHECKS.due("another", x.drift(1), -1);
            CHECKS.due("acts", x.has(11), 1);
            x.undo();
            CHECKS.due("back", x.has(4), 999 - n);
        }
    }

    private static ShyBoats atHour(int hour) {
        ShyBoats x = Checks.onLake(LAKE);
        int[] image = Checks.imageOf(x);
        image[0] = hour / 256;
        image[1] = hour % 256;
        CHECKS.due("at the hour", Checks.on(x, Checks.sealed(Arrays.copyOf(image, image.length - 1))), true);
        return x;
    }

    private static long drawn;

    private static int draw(int m) {
        drawn = (1103515245L * drawn + 12345L) % (1L << 31);
        return (int) (drawn / 64 % m);
    }

    /** Each TRY of a drift is made as an act of its own on another object. */
    private static void drifting() {
        for (int seed = 0; seed < 120; seed++) {
            Random random = new Random(seed);
            String text = Chance.lake(random, 3, 1) + Chance.someDread(random) + Chance.someLearning(random);
            ShyBoats x = Checks.onLake(text);
            ShyBoats y = Checks.onLake(text);
            drawn = seed % 4 == 0 ? 1 : seed % 4 == 1 ? Integer.MAX_VALUE - seed : random.nextInt(1 << 20);
            if (seed % 4 != 0) {
                x.seed((int) drawn);
            }
            for (int times = 0; times < 2; times++) {
                int n = 1 + random.nextInt(12);
                CHECKS.due("went in " + text, x.drift(n), driftBySteps(y, n));
                same(text, x, y);
            }
        }
    }

    private static int driftBySteps(ShyBoats y, int n) {
        int gone = 0;
        int columns = y.has(0);
        for (int hour = 0; hour < n; hour++) {
            for (int boat = 0; boat < y.has(2); boat++) {
                int[] across = {0, 1, 0, -1};
                int[] down = {-1, 0, 1, 0};
                int way = draw(4);
                int column = y.boat(boat, 0) % columns + across[way];
                int row = y.boat(boat, 0) / columns + down[way];
                boolean in = column >= 0 && column < columns && row >= 0 && row < y.has(1);
                if (in && y.cell(row * columns + column, 0) >= 0) {
                    gone += y.go(boat, row * columns + column);
                }
            }
            y.hours(1);
        }
        return gone;
    }

    private static void same(String text, ShyBoats x, ShyBoats y) {
        for (int what = 0; what < 10; what++) {
            CHECKS.due("has " + what + " in " + text, x.has(what), y.has(what));
        }
        for (int boat = 0; boat < x.has(2); boat++) {
            for (int what = 0; what < 4; what++) {
                CHECKS.due("boat " + what + " in " + text, x.boat(boat, what), y.boat(boat, what));
            }
        }
        for (int k = 0; k < x.has(9); k++) {
            for (int what = 0; what < 4; what++) {
                CHECKS.due("kept " + what + " in " + text, x.kept(k, what), y.kept(k, what));
            }
        }
    }

    private static void driftingRefused() {
        ShyBoats x = new ShyBoats();
        CHECKS.due("no lake", x.drift(1), -1);
        x = Checks.onLake(LAKE);
        int[] wrong = {0, -1, 51, Integer.MAX_VALUE, Integer.MIN_VALUE};
        for (int n : wrong) {
            CHECKS.due("can't be " + n, x.drift(n), -1);
        }
        CHECKS.due("refused", x.status(3), wrong.length);
        x.drift(50);
        CHECKS.due("50 hours", x.has(4), 50);
        CHECKS.due("one act", x.has(11), 1);
        x.undo();
        CHECKS.due("none", x.has(4), 0);
        CHECKS.due("nothing kept", x.has(9), 0);
        ShyBoats y = Checks.onLake("lake 3;");
        CHECKS.due("none went", y.drift(3), 0);
        CHECKS.due("3 hours", y.has(4), 3);
    }

    private static void undoing() {
        ShyBoats x = Checks.onLake(LAKE);
        CHECKS.due("none", x.undo(), false);
        CHECKS.due("refused", x.status(4), 1);
        x.go(0, 1);
        x.coax(1, 2);
        x.hours(5);
        x.man(0, 1);
        Checks.file(x, 2, 0);
        int[] acts = {15, 15, 0, 1, 0};
        CHECKS.due("acts", x.has(11), acts.length);
        CHECKS.due("went not", x.boat(0, 2), 1);
        x.undo();
        CHECKS.due("not balked", x.boat(0, 2), 0);
        CHECKS.due("one kept", x.has(9), 1);
        x.undo();
        CHECKS.due("no hand", x.boat(0, 3), -1);
        x.undo();
        CHECKS.due("hour 0", x.has(4), 0);
        CHECKS.due("coins", x.has(6), 2);
        x.undo();
        CHECKS.due("no coins", x.has(6), 0);
        CHECKS.due("no trust", x.boat(1, 1), 5);
        x.undo();
        CHECKS.due("at home", x.boat(0, 0), 0);
        CHECKS.due("none kept", x.has(9), 0);
        CHECKS.due("none", x.undo(), false);
        CHECKS.due("refused", x.status(4), 2);
    }

    private static void undoingTwenty() {
        ShyBoats x = Checks.onLake(LAKE);
        for (int n = 1; n <= 33; n++) {
            x.hours(n);
            CHECKS.due("acts", x.has(11), Math.min(20, n));
        }
        int hour = 33 * 34 / 2;
        for (int n = 33; n > 13; n--) {
            hour -= n;
            CHECKS.due("undo", x.undo(), true);
            CHECKS.due("hour", x.has(4), hour);
        }
        CHECKS.due("no more", x.undo(), false);
        CHECKS.due("hour", x.has(4), 91);
        x.hours(1);
        CHECKS.due("one", x.undo(), true);
        CHECKS.due("hour", x.has(4), 91);
        ShyBoats y = Checks.onLake("lake 3;row hhh;row hhh;boat a trust 9 at 0 0;boat b trust 9 at 0 0;boat c trust 9 at 0 0;");
        for (int n = 0; n < 30; n++) {
            y.go(0, n % 2 == 0 ? 1 : 0);
        }
        y.drift(50);
        CHECKS.due("40 told", y.has(9), 40);
        y.undo();
        CHECKS.due("30 told again", y.has(9), 30);
        CHECKS.due("from the oldest on", y.kept(0, 2), 1);
        CHECKS.due("to the newest", y.kept(29, 2), 0);
    }

    private static void seeding() {
        ShyBoats x = Checks.onLake("lake 3;row hhh;row hhh;row hhh;boat a trust 9 at 1 1;");
        CHECKS.due("below 0", x.seed(-1), false);
        CHECKS.due("lowest", x.seed(Integer.MIN_VALUE), false);
        CHECKS.due("refused", x.status(5), 2);
        CHECKS.due("0", x.seed(0), true);
        x.drift(1);
        CHECKS.due("12345 / 64 = 192: up", x.boat(0, 0), 1);
        x.undo();
        x.drift(1);
        // 1103515245 * 12345 + 12345 = 13622895711870 mod 2 to the 31 = 1406932606; / 64 = 21983321: right
        CHECKS.due("the seed stays when undone: right", x.boat(0, 0), 5);
        CHECKS.due("highest", x.seed(Integer.MAX_VALUE), true);
        ShyBoats y = Checks.onLake("lake 3;row hhh;row hhh;row hhh;boat a trust 9 at 1 1;");
        y.drift(1);
        // 1103527590 / 64 = 17242618: down
        CHECKS.due("1 at first: down", y.boat(0, 0), 7);
        x.seed(1);
        x.undo();
        x.drift(1);
        CHECKS.due("1 is 1: down", x.boat(0, 0), 7);
    }

    private static int act(ShyBoats x, Random random) {
        switch (random.nextInt(6)) {
            case 0: return x.go(random.nextInt(4), random.nextInt(12));
            case 1: return Checks.file(x, random.nextInt(12), random.nextInt(3));
            case 2: return x.coax(random.nextInt(4), random.nextInt(4));
            case 3: return x.man(random.nextInt(4), random.nextInt(4) - 1) ? 1 : -1;
            case 4: return x.hours(random.nextInt(60));
            default: return x.drift(random.nextInt(15));
        }
    }

    private static String all(ShyBoats x) {
        StringBuilder all = new StringBuilder();
        for (int what = 0; what < 11; what++) {
            all.append(x.has(what)).append(' ');
        }
        for (int octet : Checks.imageOf(x)) {
            all.append(octet).append(' ');
        }
        for (int k = 0; k < 40; k++) {
            for (int what = 0; what < 4; what++) {
                all.append(x.kept(k, what)).append(' ');
            }
        }
        return all.toString();
    }

    /** What was ahead of each act, against what is when it has been undone. */
    private static void undoByChance(Random random) {
        String text = Chance.lake(random, 3, 2) + Chance.someDread(random) + Chance.someLearning(random);
        ShyBoats x = Checks.onLake(text);
        java.util.ArrayDeque<String> past = new java.util.ArrayDeque<>();
        for (int n = 0; n < 60; n++) {
            String before = all(x);
            if (random.nextInt(4) == 0) {
                CHECKS.due("undo", x.undo(), !past.isEmpty());
                String due = past.isEmpty() ? before : past.removeLast();
                CHECKS.due("undone in " + text, all(x).equals(due), true);
            } else if (act(x, random) >= 0) {
                past.addLast(before);
                if (past.size() > 20) {
                    past.removeFirst();
                }
            } else {
                CHECKS.due("refused, all stays in " + text, all(x).equals(before), true);
            }
            CHECKS.due("acts", x.has(11), past.size());
        }
    }
}
