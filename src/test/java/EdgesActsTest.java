import java.math.BigInteger;
import java.util.Arrays;

/** Promises 24 to 31 and term II, sentence by sentence: acts. */
public final class EdgesActsTest {
    private static final Checks CHECKS = new Checks();
    private static final int LOW = Integer.MIN_VALUE;
    private static final int HIGH = Integer.MAX_VALUE;
    private static final String LAKE = "lake 3;row hsd;row slh;boat a trust 15 at 0 0;boat b trust 5 at 0 0;boat c trust 40 at 2 1;"
        + "hand m skill 3;hand n skill 9;rain at 2;storm at 99;coax 7;";
    private static final String OPEN = "lake 3;row hhh;row hhh;row hhh;boat a trust 9 at 1 1;";

    public static void main(String[] args) {
        besideFourWays();
        goesIfItDares();
        grows();
        balks();
        balkedOnceMore();
        goTold();
        goRefused();
        fileBehindTheLatest();
        fileWithoutAny();
        fileTold();
        fileRefused();
        coaxWorth();
        coaxTold();
        coaxRefused();
        handsComeAndGo();
        manTold();
        manRefused();
        hoursAtMost();
        hoursTold();
        hoursRefused();
        driftWays();
        draws();
        driftTold();
        driftRefused();
        acts();
        lastTwenty();
        undoTold();
        undoRefused();
        seedTold();
        seedRefused();
        seedAtFirst();
        CHECKS.finish();
    }

    /** The LAKE with an image of it changed at some places: place, octet, place, octet. */
    private static ShyBoats with(String text, int... changes) {
        ShyBoats x = Checks.onLake(text);
        int[] image = Checks.imageOf(x);
        for (int i = 0; i + 1 < changes.length; i += 2) {
            image[changes[i]] = changes[i + 1];
        }
        if (!Checks.on(x, Checks.sealed(Arrays.copyOf(image, image.length - 1)))) {
            throw new IllegalStateException("no image " + Arrays.toString(image));
        }
        return x;
    }

    private static ShyBoats atHour(int hour) {
        return with(LAKE, 0, hour / 256, 1, hour % 256);
    }

    private static void besideFourWays() {
        CHECKS.holds("II", "It TRIES a CELL beside its own (four ways; no land):");
        for (int columns : new int[] {3, 8}) {
            String all = "lake " + columns + ";" + ("row " + "h".repeat(columns) + ";").repeat(6) + "boat a trust 9 at 0 0;";
            for (int from = 0; from < 6 * columns; from++) {
                ShyBoats x = with(all, 5, from);
                for (int to = -1; to <= 6 * columns; to++) {
                    int apart = Math.abs(from % columns - to % columns) + Math.abs(from / columns - to / columns);
                    boolean beside = to >= 0 && to < 6 * columns && apart == 1;
                    CHECKS.due("from " + from + " to " + to + " of " + columns, x.go(0, to), beside ? 1 : -1);
                    if (beside) {
                        x.undo();
                    }
                }
            }
        }
        ShyBoats y = Checks.onLake("lake 3;row lhl;boat a trust 99 at 1 0;row hlh;");
        for (int cell : new int[] {0, 2, 4}) {
            CHECKS.due("land " + cell, y.go(0, cell), -1);
        }
        CHECKS.due("no try", y.has(9), 0);
    }

    private static void goesIfItDares() {
        CHECKS.holds("II", "it goes there, if its DREAD is no more than its trust,");
        for (int trust : new int[] {0, 49, 50, 51, 99}) {
            ShyBoats x = Checks.onLake("lake 3;row hsd;boat a trust " + trust + " at 0 0;dread 50;");
            CHECKS.due("trust " + trust, x.go(0, 1), trust >= 50 ? 1 : 0);
            CHECKS.due("is then, trust " + trust, x.boat(0, 0), trust >= 50 ? 1 : 0);
            CHECKS.due("balked, trust " + trust, x.boat(0, 2), trust >= 50 ? 0 : 1);
        }
        CHECKS.due("0 for 0", Checks.onLake("lake 3;row hsd;boat a trust 0 at 0 0;dread 0-5;").go(0, 1), 1);
        CHECKS.due("99 for 1000", Checks.onLake("lake 3;row hsd;boat a trust 99 at 0 0;dread 1000;").go(0, 1), 1);
        CHECKS.due("98 for 1000", Checks.onLake("lake 3;row hsd;boat a trust 98 at 0 0;dread 1000;").go(0, 1), 0);
    }

    private static int trustBy(String sums) {
        ShyBoats x = Checks.onLake("lake 3;row hsd;boat a trust 50 at 0 0;" + sums);
        x.go(0, 1);
        return x.boat(0, 1);
    }

    private static void grows() {
        CHECKS.holds("II", "which becomes the SUM of grows (0 .. 99; as it was without);");
        CHECKS.due("0", trustBy("dread 0;grows 0;falls 7;"), 0);
        CHECKS.due("-1", trustBy("dread 0;grows 0-1;falls 7;"), 0);
        CHECKS.due("99", trustBy("dread 0;grows 99;falls 7;"), 99);
        CHECKS.due("100", trustBy("dread 0;grows 100;falls 7;"), 99);
        CHECKS.due("the greatest", trustBy("dread 0;grows 1000*1000;"), 99);
        CHECKS.due("the least", trustBy("dread 0;grows 0-1000*1000;"), 0);
        CHECKS.due("without", trustBy("dread 0;falls 7;"), 50);
    }

    private static void balks() {
        CHECKS.holds("II", "else it BALKS: it stays, its trust becomes the SUM of falls (0 .. 99; as it was without; balks as ahead of it),");
        CHECKS.due("0", trustBy("dread 51;falls 0;grows 7;"), 0);
        CHECKS.due("-1", trustBy("dread 51;falls 0-1;grows 7;"), 0);
        CHECKS.due("99", trustBy("dread 51;falls 99;grows 7;"), 99);
        CHECKS.due("100", trustBy("dread 51;falls 100;grows 7;"), 99);
        CHECKS.due("the least", trustBy("dread 51;falls 0-1000*1000;"), 0);
        CHECKS.due("without", trustBy("dread 51;grows 7;"), 50);
        ShyBoats x = Checks.onLake("lake 3;row hsd;boat a trust 50 at 0 0;dread 99;falls balks*10+1;");
        for (int n = 0; n < 4; n++) {
            CHECKS.due("balks", x.go(0, 1), 0);
            CHECKS.due("balks as ahead of it, " + n, x.boat(0, 1), 10 * n + 1);
            CHECKS.due("it stays", x.boat(0, 0), 0);
        }
    }

    private static void balkedOnceMore() {
        CHECKS.holds("II", "then it has balked once more (99 at most).");
        ShyBoats x = with("lake 3;row hsd;boat a trust 0 at 0 0;dread 50;", 7, 97);
        for (int due : new int[] {98, 99, 99, 99}) {
            CHECKS.due("balks", x.go(0, 1), 0);
            CHECKS.due("so often", x.boat(0, 2), due);
            CHECKS.due("of all", x.has(7), due);
        }
        CHECKS.due("each is kept, all the same", x.has(9), 4);
        CHECKS.due("each is an act", x.has(11), 4);
        ShyBoats y = Checks.onLake(OPEN);
        y.go(0, 1);
        CHECKS.due("who goes has not", y.boat(0, 2), 0);
    }

    private static void goTold() {
        CHECKS.holds("Promise 24", "A BOAT TRIES a CELL: whether it went (1, 0);");
        ShyBoats x = Checks.onLake(LAKE);
        CHECKS.due("a goes", x.go(0, 1), 1);
        CHECKS.due("it is there", x.boat(0, 0), 1);
        CHECKS.due("b balks", x.go(1, 1), 0);
        CHECKS.due("it is not", x.boat(1, 0), 0);
        CHECKS.due("acts", x.has(11), 2);
        CHECKS.due("nothing refused", x.status(2), 0);
    }

    private static void goRefused() {
        CHECKS.holds("Promise 24", "NONE, refused (2), when there are none such, it is not beside it, or land.");
        int[][] none = {{-1, 1}, {3, 1}, {5, 1}, {6, 1}, {LOW, 1}, {HIGH, 1}, {0, -1}, {0, -3}, {0, 6}, {0, 48}, {0, LOW}, {0, HIGH}, {0, 0}, {0, 2},
            {0, 4}, {0, 5}, {2, 4}, {2, 5}, {2, 3}, {2, 6}, {2, 8}, {-1, -1}};
        for (int[] row : none) {
            ShyBoats x = Checks.onLake(LAKE);
            CHECKS.refused("go " + Arrays.toString(row), x, 2, () -> x.go(row[0], row[1]));
        }
        ShyBoats y = new ShyBoats();
        CHECKS.refused("no lake", y, 2, () -> y.go(0, 1));
    }

    private static final String FILES = "lake 3;row hsd;boat a trust 10 at 0 0;boat b trust 20 at 0 0;boat c trust 9 at 0 0;boat d trust 2 at 0 0;"
        + "dread depth*10+5-ahead*bold/4;grows trust+4+ahead;falls trust-bold/5;";

    private static void fileBehindTheLatest() {
        CHECKS.holds("II", "A FILE of BOATS of one CELL TRIES one beside it, BOAT by BOAT, each behind the latest one that went (ahead, bold by how that one trusts then;");
        ShyBoats x = Checks.onLake(FILES);
        // a balks at 15; b goes to 15 and trusts 24; d balks at 9; c goes to 9 behind b, not behind d
        CHECKS.due("two went", Checks.file(x, 1, 0, 1, 3, 2), 2);
        int[][] due = {{0, 10, 1}, {1, 24, 0}, {1, 14, 0}, {0, 0, 1}};
        for (int boat = 0; boat < 4; boat++) {
            for (int what = 0; what < 3; what++) {
                CHECKS.due("boat " + boat + ", " + what, x.boat(boat, what), due[boat][what]);
            }
        }
        int[][] kept = {{0, 0, 1, 0}, {0, 1, 1, 1}, {0, 3, 1, 0}, {0, 2, 1, 1}};
        for (int k = 0; k < 4; k++) {
            for (int what = 0; what < 4; what++) {
                CHECKS.due("kept " + k + ", " + what, x.kept(k, what), kept[k][what]);
            }
        }
        // the latest that went, not the boldest: behind c, who trusts 14, d dreads 12
        ShyBoats y = with(FILES, 18, 11);
        CHECKS.due("b and c, d behind c", Checks.file(y, 1, 1, 2, 3), 2);
        ShyBoats z = with(FILES, 18, 11);
        CHECKS.due("b and d, c behind d", Checks.file(z, 1, 1, 3, 2), 2);
    }

    private static void fileWithoutAny() {
        CHECKS.holds("II", "the first one, and those behind none that went, without).");
        ShyBoats x = Checks.onLake("lake 3;row hsd;boat a trust 10 at 0 0;boat b trust 20 at 0 0;boat c trust 30 at 0 0;dread 50-ahead*40;grows 1;falls trust+1;");
        CHECKS.due("none went", Checks.file(x, 1, 0, 1, 2), 0);
        CHECKS.due("all balked", x.has(7), 3);
        CHECKS.due("each learnt", x.has(8), 63);
        ShyBoats y = Checks.onLake("lake 3;row hsd;boat a trust 10 at 0 0;boat b trust 20 at 0 0;boat c trust 50 at 0 0;dread 50-ahead*40;grows 0;");
        CHECKS.due("c went", Checks.file(y, 1, 0, 1, 2), 1);
        ShyBoats z = Checks.onLake("lake 3;row hsd;boat a trust 10 at 0 0;boat b trust 20 at 0 0;boat c trust 50 at 0 0;dread 50-ahead*40;grows 0;");
        CHECKS.due("all behind c, who trusts 0 then", Checks.file(z, 1, 2, 0, 1), 3);
    }

    private static void fileTold() {
        CHECKS.holds("Promise 25", "The tape (it goes) is a FILE, BOATS of one CELL, a byte each, unlike ones, that TRIES a CELL: how many went;");
        ShyBoats x = Checks.onLake(FILES);
        CHECKS.due("one that goes", Checks.file(x, 1, 1), 1);
        CHECKS.gone("file", x);
        CHECKS.due("one act", x.has(11), 1);
        CHECKS.due("one that does not", Checks.file(x, 1, 3), 0);
        CHECKS.gone("file", x);
        CHECKS.due("an act, too", x.has(11), 2);
        CHECKS.due("back", Checks.file(x, 0, 1), 1);
        StringBuilder six = new StringBuilder("lake 3;row hhh;");
        for (int boat = 0; boat < 6; boat++) {
            six.append("boat ").append((char) ('a' + boat)).append(" trust 9 at 0 0;");
        }
        ShyBoats y = Checks.onLake(six.toString());
        CHECKS.due("six", Checks.file(y, 1, 5, 4, 3, 2, 1, 0), 6);
        CHECKS.due("one act", y.has(11), 1);
        CHECKS.due("six tries", y.has(9), 6);
        CHECKS.due("the first of them", y.kept(0, 1), 5);
        CHECKS.due("all there", y.cell(1, 3), 63);
    }

    private static void fileRefused() {
        CHECKS.holds("Promise 25", "NONE, refused (2), when it is none such, or they can't try it.");
        // the CELL, then the BOATS
        int[][] none = {{1}, {1, 0, 0}, {1, 0, 1, 0}, {1, 1, 0, 1}, {1, 0, 2}, {1, 2, 0}, {1, 3}, {1, 0, 3}, {1, 6}, {1, 255}, {2, 0}, {0, 0}, {4, 0}, {5, 0},
            {4, 2}, {3, 2}, {-1, 0}, {6, 0}, {48, 0}, {LOW, 0}, {HIGH, 0}, {1, 0, 1, 2}, {1, 0, 1, 0, 1, 0, 1, 0, 1}};
        for (int[] row : none) {
            ShyBoats x = Checks.onLake(LAKE);
            int[] boats = Arrays.copyOfRange(row, 1, row.length);
            CHECKS.refused("file " + Arrays.toString(row), x, 2, () -> Checks.file(x, row[0], boats));
            CHECKS.gone("file " + Arrays.toString(row), x);
        }
        ShyBoats y = Checks.onLake(LAKE);
        int[] zeros = new int[1600];
        CHECKS.refused("a tape full of boat 0", y, 2, () -> Checks.file(y, 1, zeros));
        ShyBoats z = new ShyBoats();
        CHECKS.refused("no lake", z, 2, () -> Checks.file(z, 0, 0));
        CHECKS.gone("no lake", z);
    }

    private static void coaxWorth() {
        CHECKS.holds("II", "coaxing (a coin is worth coax of trust, 99 at most);");
        // trust, what a coin is worth, coins, trust then
        int[][] rows = {{0, 1, 1, 1}, {0, 1, 98, 98}, {0, 1, 99, 99}, {1, 1, 99, 99}, {0, 99, 1, 99}, {0, 99, 99, 99}, {0, 49, 2, 98}, {0, 50, 2, 99},
            {98, 1, 1, 99}, {99, 1, 1, 99}, {50, 7, 7, 99}, {50, 7, 6, 92}};
        for (int[] row : rows) {
            ShyBoats x = Checks.onLake("lake 3;row hhh;boat a trust " + row[0] + " at 0 0;coax " + row[1] + ";grows 0;falls 0;");
            CHECKS.due("coax " + Arrays.toString(row), x.coax(0, row[2]), row[3]);
            CHECKS.due("trust " + Arrays.toString(row), x.boat(0, 1), row[3]);
            CHECKS.due("all coins are paid " + Arrays.toString(row), x.has(6), row[2]);
        }
    }

    private static void coaxTold() {
        CHECKS.holds("Promise 26", "A BOAT is coaxed for so many coins (1 .. 99): its trust then;");
        ShyBoats x = Checks.onLake(LAKE);
        CHECKS.due("a", x.coax(0, 1), 22);
        CHECKS.due("b", x.coax(1, 2), 19);
        CHECKS.due("the most", x.coax(2, 99), 99);
        CHECKS.due("paid", x.has(6), 102);
        CHECKS.due("acts", x.has(11), 3);
        CHECKS.due("a as it was", x.boat(0, 1), 22);
        CHECKS.due("trust at first stays", x.boat(0, 4), 15);
    }

    private static void coaxRefused() {
        CHECKS.holds("Promise 26", "NONE, refused (3), when that can't be.");
        int[][] none = {{0, 0}, {0, -1}, {0, 100}, {0, LOW}, {0, HIGH}, {-1, 1}, {3, 1}, {5, 1}, {6, 1}, {LOW, 1}, {HIGH, 1}};
        for (int[] row : none) {
            ShyBoats x = Checks.onLake(LAKE);
            CHECKS.refused("coax " + Arrays.toString(row), x, 3, () -> x.coax(row[0], row[1]));
        }
        ShyBoats y = new ShyBoats();
        CHECKS.refused("no lake", y, 3, () -> y.coax(0, 1));
    }

    private static void crew(String what, ShyBoats x, int... hands) {
        for (int boat = 0; boat < hands.length; boat++) {
            CHECKS.due(what + ", hand of " + boat, x.boat(boat, 3), hands[boat]);
        }
        for (int hand = 0; hand < x.has(3); hand++) {
            int in = -1;
            for (int boat = 0; boat < hands.length; boat++) {
                in = hands[boat] == hand ? boat : in;
            }
            CHECKS.due(what + ", boat of " + hand, x.hand(hand, 1), in);
        }
    }

    private static void handsComeAndGo() {
        CHECKS.holds("II", "a HAND comes into a BOAT (out of another one, if he is there; who was in it goes out), or goes out;");
        ShyBoats x = Checks.onLake(LAKE);
        crew("none", x, -1, -1, -1);
        x.man(0, 0);
        crew("m into a", x, 0, -1, -1);
        x.man(2, 0);
        crew("m out of a into c", x, -1, -1, 0);
        x.man(2, 1);
        crew("n into c, m out", x, -1, -1, 1);
        x.man(0, 0);
        crew("m into a", x, 0, -1, 1);
        x.man(0, 1);
        crew("n out of c into a, m out", x, 1, -1, -1);
        x.man(0, -1);
        crew("n out", x, -1, -1, -1);
        CHECKS.due("six acts", x.has(11), 6);
        // of six BOATS with all that an image can tell of them nothing else changes
        StringBuilder text = new StringBuilder("lake 3;row hsd;");
        int[] image = new int[29];
        for (int boat = 0; boat < 6; boat++) {
            text.append("boat ").append((char) ('a' + boat)).append(" trust 9 at 0 0;hand ").append((char) ('m' + boat)).append(" skill 1;");
            int[] told = {2, 80 + boat, 90 + boat, boat == 2 ? 0 : 6 - boat};
            System.arraycopy(told, 0, image, 5 + 4 * boat, 4);
        }
        int[][] rows = {{0, 3}, {0, -1}, {5, 3}, {5, 5}, {5, -1}, {2, 5}, {2, 0}};
        for (int[] row : rows) {
            ShyBoats y = Checks.onLake(text.toString());
            Checks.on(y, Checks.sealed(image));
            y.man(row[0], row[1]);
            int[] due = image.clone();
            for (int boat = 0; boat < 6; boat++) {
                int hand = 8 + 4 * boat;
                due[hand] = boat == row[0] ? row[1] + 1 : due[hand] == row[1] + 1 ? 0 : due[hand];
            }
            CHECKS.due("nothing but hands " + Arrays.toString(row), Arrays.equals(Checks.imageOf(y), Checks.sealed(due)), true);
        }
    }

    private static void manTold() {
        CHECKS.holds("Promise 27", "A HAND (NONE: none) comes into a BOAT: true;");
        ShyBoats x = Checks.onLake(LAKE);
        CHECKS.due("the first into the last", x.man(2, 0), true);
        CHECKS.due("the last into the first", x.man(0, 1), true);
        crew("both", x, 1, -1, 0);
        CHECKS.due("none into the first", x.man(0, -1), true);
        crew("one", x, -1, -1, 0);
        CHECKS.due("nothing refused", x.status(3), 0);
    }

    private static void manRefused() {
        CHECKS.holds("Promise 27", "false, refused (3), when there are none such, or it is so already.");
        int[][] none = {{-1, 0}, {3, 0}, {6, 0}, {LOW, 0}, {HIGH, 0}, {0, 2}, {0, 6}, {0, -2}, {0, LOW}, {0, HIGH}, {-1, -1}, {3, -1}, {1, 1}, {0, -1}, {2, -1}};
        for (int[] row : none) {
            ShyBoats x = Checks.onLake(LAKE);
            x.man(1, 1);
            CHECKS.refusedFlag("man " + Arrays.toString(row), x, 3, () -> x.man(row[0], row[1]));
        }
        ShyBoats y = new ShyBoats();
        CHECKS.refusedFlag("no lake", y, 3, () -> y.man(0, 0));
        ShyBoats z = new ShyBoats();
        CHECKS.refusedFlag("no lake, none", z, 3, () -> z.man(0, -1));
    }

    private static void hoursAtMost() {
        CHECKS.holds("II", "HOURS (999 at most);");
        ShyBoats x = atHour(998);
        CHECKS.refused("two more", x, 3, () -> x.hours(2));
        CHECKS.due("one more", x.hours(1), 3);
        CHECKS.due("the last", x.has(4), 999);
        CHECKS.refused("none beyond", x, 3, () -> x.hours(1));
        CHECKS.refused("nor by drifting", x, 3, () -> x.drift(1));
        ShyBoats y = atHour(799);
        CHECKS.due("200 up to the last", y.hours(200), 3);
        CHECKS.due("the last", y.has(4), 999);
        ShyBoats z = atHour(800);
        CHECKS.refused("200 beyond it", z, 3, () -> z.hours(200));
        CHECKS.due("199", z.hours(199), 3);
        ShyBoats w = atHour(949);
        CHECKS.due("50 of drifting up to the last", w.drift(50) >= 0, true);
        CHECKS.due("the last", w.has(4), 999);
        ShyBoats v = atHour(950);
        CHECKS.refused("50 of drifting beyond it", v, 3, () -> v.drift(50));
    }

    private static void hoursTold() {
        CHECKS.holds("Promise 28", "n HOURS go by (1 .. 200): the weather then;");
        ShyBoats x = Checks.onLake(LAKE);
        CHECKS.due("1", x.hours(1), 0);
        CHECKS.due("1", x.hours(1), 1);
        CHECKS.due("96", x.hours(96), 1);
        CHECKS.due("1", x.hours(1), 3);
        CHECKS.due("200", x.hours(200), 3);
        CHECKS.due("hour", x.has(4), 299);
        CHECKS.due("acts", x.has(11), 5);
        CHECKS.due("of an empty lake", Checks.onLake("lake 3;").hours(200), 0);
    }

    private static void hoursRefused() {
        CHECKS.holds("Promise 28", "NONE, refused (3), when it can't be, or there is no lake.");
        for (int n : new int[] {0, -1, 201, 999, 1000, LOW, HIGH}) {
            ShyBoats x = Checks.onLake(LAKE);
            CHECKS.refused("hours " + n, x, 3, () -> x.hours(n));
            ShyBoats late = atHour(900);
            CHECKS.refused("late hours " + n, late, 3, () -> late.hours(n));
        }
        ShyBoats y = atHour(999);
        CHECKS.refused("beyond the last", y, 3, () -> y.hours(1));
        ShyBoats z = new ShyBoats();
        CHECKS.refused("no lake", z, 3, () -> z.hours(1));
    }

    /** What x becomes by one DRAW, and the way then. */
    private static int[] drawn(int x) {
        BigInteger next = BigInteger.valueOf(1103515245L).multiply(BigInteger.valueOf(x)).add(BigInteger.valueOf(12345L)).mod(BigInteger.ONE.shiftLeft(31));
        return new int[] {next.intValueExact(), next.shiftRight(6).mod(BigInteger.valueOf(4)).intValueExact()};
    }

    private static void driftWays() {
        CHECKS.holds("II", "DRIFTING by the seed: for each HOUR, for each BOAT a DRAW of 4 (up, right, down, left): it TRIES that CELL, if it can; then an HOUR.");
        int[] cells = {1, 5, 7, 3};
        boolean[] seen = new boolean[4];
        for (int seed = 0; seed < 40; seed++) {
            ShyBoats x = Checks.onLake(OPEN);
            x.seed(seed);
            int way = drawn(seed)[1];
            seen[way] = true;
            CHECKS.due("went", x.drift(1), 1);
            CHECKS.due("seed " + seed + ", way " + way, x.boat(0, 0), cells[way]);
            CHECKS.due("tried in the hour ahead", x.kept(0, 0), 0);
            CHECKS.due("then an hour", x.has(4), 1);
        }
        CHECKS.due("all four ways", seen[0] && seen[1] && seen[2] && seen[3], true);
        // seed 1: down, then right, ..; each BOAT has a DRAW of its own, even where it can't try
        ShyBoats y = Checks.onLake("lake 3;row lhl;row lll;row hhh;row hhh;row hhh;boat a trust 9 at 1 0;boat b trust 9 at 1 3;");
        int[] first = drawn(1);
        int[] second = drawn(first[0]);
        int[] fourth = drawn(drawn(second[0])[0]);
        int[] beside = {7, 11, 13, 9};
        CHECKS.due("one of two went", y.drift(1), 1);
        CHECKS.due("shut in", y.boat(0, 0), 1);
        CHECKS.due("by the second draw", y.boat(1, 0), beside[second[1]]);
        CHECKS.due("one try", y.has(9), 1);
        ShyBoats z = with("lake 3;row lhl;row lll;row hhh;row hhh;row hhh;boat a trust 9 at 1 0;boat b trust 9 at 1 3;");
        z.drift(1);
        z.go(1, 10);
        z.drift(1);
        CHECKS.due("by the fourth draw", z.boat(1, 0), beside[fourth[1]]);
        // at an edge it can't try, land or none: it neither goes round nor balks
        for (int seed = 0; seed < 40; seed++) {
            int[] corners = {0, 2, 6, 8};
            for (int corner : corners) {
                ShyBoats w = with(OPEN, 5, corner);
                w.seed(seed);
                int way = drawn(seed)[1];
                int across = corner % 3 + (way == 1 ? 1 : way == 3 ? -1 : 0);
                int down = corner / 3 + (way == 2 ? 1 : way == 0 ? -1 : 0);
                boolean in = across >= 0 && across < 3 && down >= 0 && down < 3;
                CHECKS.due("corner " + corner + ", seed " + seed, w.drift(1), in ? 1 : 0);
                CHECKS.due("is then", w.boat(0, 0), in ? 3 * down + across : corner);
                CHECKS.due("tries", w.has(9), in ? 1 : 0);
                CHECKS.due("has not balked", w.boat(0, 2), 0);
            }
        }
    }

    private static void draws() {
        CHECKS.holds("II", "A DRAW of m: x (the seed) becomes (1103515245 x + 12345) mod 2 to the 31; floor(x / 64) mod m.");
        int[] cells = {-3, 1, 3, -1};
        for (int seed : new int[] {0, 1, 2, 63, 64, 12345, 1 << 20, (1 << 30) - 1, 1 << 30, HIGH - 1, HIGH}) {
            ShyBoats x = Checks.onLake("lake 3;" + "row hhh;".repeat(6) + "boat a trust 9 at 1 1;");
            x.seed(seed);
            int drawn = seed;
            int at = 4;
            for (int n = 0; n < 30; n++) {
                int[] draw = drawn(drawn);
                drawn = draw[0];
                int to = at + cells[draw[1]];
                boolean edge = to < 0 || to >= 18 || draw[1] == 1 && at % 3 == 2 || draw[1] == 3 && at % 3 == 0;
                at = edge ? at : to;
                x.drift(1);
                CHECKS.due("draw " + n + " of seed " + seed, x.boat(0, 0), at);
            }
        }
    }

    private static void driftTold() {
        CHECKS.holds("Promise 29", "n HOURS of DRIFTING by the seed (1 .. 50), one ACT: how many TRIES went;");
        for (int n : new int[] {1, 2, 49, 50}) {
            ShyBoats x = Checks.onLake(OPEN);
            ShyBoats y = Checks.onLake(OPEN);
            int gone = 0;
            for (int hour = 0; hour < n; hour++) {
                gone += y.drift(1);
            }
            CHECKS.due("went in " + n, x.drift(n), gone);
            CHECKS.due("one act of " + n, x.has(11), 1);
            CHECKS.due("hour " + n, x.has(4), n);
            CHECKS.due("is then", x.boat(0, 0), y.boat(0, 0));
            CHECKS.due("undone", x.undo(), true);
            CHECKS.due("hour 0", x.has(4), 0);
            CHECKS.due("nothing kept", x.has(9), 0);
            CHECKS.due("where it was", x.boat(0, 0), 4);
        }
        ShyBoats z = Checks.onLake("lake 3;row sss;row shs;row sss;boat a trust 9 at 1 1;falls trust-1;");
        CHECKS.due("those that balked went not", z.drift(5), 0);
        CHECKS.due("all balked", z.boat(0, 2), 5);
        CHECKS.due("and learnt", z.boat(0, 1), 4);
        CHECKS.due("without boats", Checks.onLake("lake 3;row hhh;").drift(50), 0);
        CHECKS.due("without rows", Checks.onLake("lake 3;").drift(50), 0);
    }

    private static void driftRefused() {
        CHECKS.holds("Promise 29", "NONE, refused (3), when it can't be, or there is no lake.");
        for (int n : new int[] {0, -1, 51, 200, LOW, HIGH}) {
            ShyBoats x = Checks.onLake(OPEN);
            CHECKS.refused("drift " + n, x, 3, () -> x.drift(n));
            ShyBoats y = Checks.onLake(OPEN);
            x.drift(3);
            y.drift(3);
            CHECKS.due("no draw was made", x.boat(0, 0), y.boat(0, 0));
        }
        ShyBoats late = with(OPEN, 0, 3, 1, 230);
        CHECKS.refused("two beyond 998", late, 3, () -> late.drift(2));
        ShyBoats like = with(OPEN, 0, 3, 1, 230);
        late.drift(1);
        like.drift(1);
        CHECKS.due("no draw was made", late.boat(0, 0), like.boat(0, 0));
        CHECKS.refused("one beyond 999", late, 3, () -> late.drift(1));
        ShyBoats z = new ShyBoats();
        CHECKS.refused("no lake", z, 3, () -> z.drift(1));
    }

    private static void act(ShyBoats x, int n) {
        switch (n) {
            case 0: x.go(0, 1); break;
            case 1: x.go(1, 1); break;
            case 2: Checks.file(x, 2, 2); break;
            case 3: x.coax(1, 2); break;
            case 4: x.man(1, 1); break;
            case 5: x.hours(7); break;
            default: x.drift(7); break;
        }
    }

    private static void acts() {
        CHECKS.holds("II", "ACTS: a BOAT TRIES a CELL; a FILE;");
        for (int n = 0; n < 7; n++) {
            ShyBoats x = Checks.onLake(LAKE);
            for (int earlier = 0; earlier < n; earlier++) {
                act(x, earlier);
            }
            String before = Checks.stateOf(x);
            act(x, n);
            CHECKS.due("acts with act " + n, x.has(11), n + 1);
            CHECKS.due("act " + n + " changes something", Checks.stateOf(x).equals(before), false);
            CHECKS.due("act " + n + " is undone", x.undo(), true);
            CHECKS.due("as ahead of act " + n, Checks.stateOf(x).equals(before), true);
        }
        ShyBoats x = Checks.onLake(LAKE);
        // telling, asking, seeds and images are none
        Checks.trials(x, 0, 1, 1);
        Checks.ask(x, 0, "often all");
        x.seed(7);
        x.image();
        x.order(3, 1, -1);
        CHECKS.due("none", x.has(11), 0);
    }

    private static void lastTwenty() {
        CHECKS.holds("II", "The last 20 can be undone.");
        for (int acts : new int[] {19, 20, 21, 39, 40, 41}) {
            ShyBoats x = Checks.onLake(LAKE);
            for (int n = 1; n <= acts; n++) {
                x.hours(n % 7 + 1);
                CHECKS.due("acts", x.has(11), Math.min(20, n));
            }
            int hour = x.has(4);
            for (int n = acts; n > Math.max(0, acts - 20); n--) {
                CHECKS.due("undo of " + n, x.undo(), true);
                hour -= n % 7 + 1;
                CHECKS.due("hour ahead of " + n, x.has(4), hour);
            }
            CHECKS.due("no more", x.undo(), false);
            CHECKS.due("hour", x.has(4), hour);
            x.hours(1);
            CHECKS.due("but another", x.undo(), true);
            CHECKS.due("alone", x.undo(), false);
        }
    }

    private static void undoTold() {
        CHECKS.holds("Promise 30", "The latest ACT is undone (the seed stays): true;");
        ShyBoats x = Checks.onLake(OPEN);
        x.seed(0);
        String before = Checks.stateOf(x);
        x.drift(1);
        CHECKS.due("up", x.boat(0, 0), 1);
        CHECKS.due("undone", x.undo(), true);
        CHECKS.due("as it was", Checks.stateOf(x).equals(before), true);
        x.drift(1);
        CHECKS.due("the seed goes on: right", x.boat(0, 0), 5);
        ShyBoats y = Checks.onLake(OPEN);
        y.hours(1);
        y.seed(0);
        y.undo();
        y.drift(1);
        CHECKS.due("a seed told behind the act stays: up", y.boat(0, 0), 1);
        ShyBoats z = Checks.onLake(OPEN);
        Checks.trials(z, 0, 1, 1);
        z.go(0, 1);
        Checks.trials(z, 0, 1, 1, 2, 1);
        z.undo();
        CHECKS.due("trials are no act", z.has(10), 2);
    }

    private static void undoRefused() {
        CHECKS.holds("Promise 30", "false, refused (4), when none can be.");
        ShyBoats x = Checks.onLake(LAKE);
        CHECKS.refusedFlag("at first", x, 4, x::undo);
        x.go(0, 0);
        x.coax(0, 0);
        CHECKS.refusedFlag("what was refused is no act", x, 4, x::undo);
        x.go(0, 1);
        x.undo();
        CHECKS.refusedFlag("all undone", x, 4, x::undo);
        ShyBoats y = Checks.onLake(LAKE);
        y.go(0, 1);
        Checks.lake(y, LAKE);
        CHECKS.refusedFlag("another lake", y, 4, y::undo);
        ShyBoats z = Checks.onLake(LAKE);
        z.go(0, 1);
        Checks.on(z, Checks.imageOf(z));
        CHECKS.refusedFlag("behind an image", z, 4, z::undo);
        ShyBoats w = new ShyBoats();
        CHECKS.refusedFlag("no lake", w, 4, w::undo);
    }

    private static void seedTold() {
        CHECKS.holds("Promise 31", "The seed: true;");
        int[] cells = {1, 5, 7, 3};
        for (int seed : new int[] {0, 1, 2, 3, 1000, HIGH - 1, HIGH}) {
            ShyBoats x = Checks.onLake(OPEN);
            x.drift(1);
            x.undo();
            CHECKS.due("seed " + seed, x.seed(seed), true);
            x.drift(1);
            CHECKS.due("goes by seed " + seed, x.boat(0, 0), cells[drawn(seed)[1]]);
        }
        ShyBoats y = new ShyBoats();
        CHECKS.due("without a lake", y.seed(0), true);
        CHECKS.due("nothing refused", y.status(5), 0);
    }

    private static void seedRefused() {
        CHECKS.holds("Promise 31", "false, refused (5), when it is below 0.");
        for (int seed : new int[] {-1, -2, LOW, LOW + 1}) {
            ShyBoats x = Checks.onLake(OPEN);
            x.seed(0);
            CHECKS.refusedFlag("seed " + seed, x, 5, () -> x.seed(seed));
            x.drift(1);
            CHECKS.due("it is 0 yet: up", x.boat(0, 0), 1);
            ShyBoats y = new ShyBoats();
            CHECKS.refusedFlag("no lake, seed " + seed, y, 5, () -> y.seed(seed));
        }
    }

    private static void seedAtFirst() {
        CHECKS.holds("Promise 31", "(It is 1 at first.)");
        ShyBoats x = Checks.onLake(OPEN);
        ShyBoats y = Checks.onLake(OPEN);
        y.seed(1);
        for (int n = 0; n < 20; n++) {
            x.drift(1);
            y.drift(1);
            CHECKS.due("as by seed 1, " + n, x.boat(0, 0), y.boat(0, 0));
        }
        ShyBoats z = Checks.onLake(OPEN);
        z.drift(1);
        CHECKS.due("down", z.boat(0, 0), 7);
    }
}
