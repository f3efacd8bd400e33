import java.util.Arrays;

/** Promises 14 to 17 with their terms, sentence by sentence: dread and ways. */
public final class EdgesWaysTest {
    private static final Checks CHECKS = new Checks();
    private static final int LOW = Integer.MIN_VALUE;
    private static final int HIGH = Integer.MAX_VALUE;
    private static final String LAKE = "lake 3;row hsd;row wlh;boat a trust 5 at 0 0;boat b trust 40 at 2 1;";

    public static void main(String[] args) {
        dreadBounds();
        dreadWithout();
        dreadBehind();
        noDread();
        routeTold();
        routeByTrust();
        fewestSteps();
        longRoute();
        noRoute();
        nothingLearnt();
        gentlest();
        gentlestToWhereItIs();
        coins();
        gentleTold();
        noGentle();
        runsToTheLeast();
        runsOfLikeOnes();
        runsTold();
        noRuns();
        CHECKS.finish();
    }

    private static int dreadBy(String sum) {
        return Checks.onLake(LAKE + "dread " + sum + ";").dread(0, 1, -1);
    }

    private static void dreadBounds() {
        CHECKS.holds("II", "DREAD of a BOAT for a CELL: the SUM of dread, 0 .. 99 (below is 0, above 99;");
        CHECKS.due("0", dreadBy("0"), 0);
        CHECKS.due("1", dreadBy("1"), 1);
        CHECKS.due("-1", dreadBy("0-1"), 0);
        CHECKS.due("the least", dreadBy("0-1000*1000"), 0);
        CHECKS.due("98", dreadBy("98"), 98);
        CHECKS.due("99", dreadBy("99"), 99);
        CHECKS.due("100", dreadBy("100"), 99);
        CHECKS.due("the greatest", dreadBy("1000*1000"), 99);
        CHECKS.due("only the whole is bound so", dreadBy("150-120"), 30);
    }

    private static void dreadWithout() {
        CHECKS.holds("II", "10 times depth without).");
        ShyBoats x = Checks.onLake(LAKE);
        int[] due = {0, 10, 20, 20, -1, 0};
        for (int cell = 0; cell < 6; cell++) {
            CHECKS.due("cell " + cell, x.dread(0, cell, -1), due[cell]);
            CHECKS.due("behind b, cell " + cell, x.dread(0, cell, 1), due[cell]);
        }
        CHECKS.due("a dread of 0 is one", dreadBy("0"), 0);
    }

    private static void dreadBehind() {
        CHECKS.holds("Promise 14", "DREAD of a BOAT for a CELL, behind another BOAT (NONE: alone).");
        ShyBoats x = Checks.onLake(LAKE + "dread 50-ahead*10-bold/2;");
        CHECKS.due("alone", x.dread(0, 1, -1), 50);
        CHECKS.due("a behind b, wherever both are", x.dread(0, 1, 1), 20);
        CHECKS.due("b behind a", x.dread(1, 1, 0), 38);
        CHECKS.due("far from where it is", x.dread(0, 5, -1), 50);
        CHECKS.due("where it is", x.dread(0, 0, 1), 20);
        x.coax(1, 99);
        CHECKS.due("as that one trusts now", x.dread(0, 1, 1), 0);
    }

    private static void noDread() {
        CHECKS.holds("Promise 14", "NONE when there are none such, they are one, or it is land.");
        ShyBoats x = Checks.onLake(LAKE);
        int[][] none = {{-1, 0, -1}, {2, 0, -1}, {5, 0, 0}, {6, 0, 0}, {0, -1, -1}, {0, 6, -1}, {0, 47, -1}, {0, 48, -1}, {0, 0, -2}, {0, 0, 2},
            {0, 0, 6}, {0, 0, 0}, {0, 1, 0}, {1, 1, 1}, {0, 4, -1}, {0, 4, 1}, {-1, 0, 0}, {-1, 0, 1}, {LOW, 0, -1}, {HIGH, 0, -1}, {0, LOW, -1},
            {0, HIGH, -1}, {0, 0, LOW}, {0, 0, HIGH}};
        for (int[] row : none) {
            CHECKS.due("dread " + Arrays.toString(row), x.dread(row[0], row[1], row[2]), -1);
        }
        CHECKS.due("no lake", new ShyBoats().dread(0, 0, -1), -1);
    }

    private static void row(String what, ShyBoats x, int boat, int cell, int... due) {
        CHECKS.due(what + ", steps to " + cell, x.route(boat, cell, -1), due.length);
        for (int k = 0; k < due.length; k++) {
            CHECKS.due(what + ", step " + k + " to " + cell, x.route(boat, cell, k), due[k]);
        }
        CHECKS.due(what + ", behind the last to " + cell, x.route(boat, cell, due.length), -1);
    }

    private static void routeTold() {
        CHECKS.holds("Promise 15", "A ROUTE: how many steps (k NONE), the k-th CELL come to.");
        ShyBoats x = Checks.onLake("lake 3;row hss;row lls;row sss;boat a trust 10 at 0 0;");
        row("around the land", x, 0, 6, 1, 2, 5, 8, 7, 6);
        row("one step", x, 0, 1, 1);
        row("none, to where it is", x, 0, 0);
        String before = Checks.stateOf(x);
        x.route(0, 6, -1);
        CHECKS.due("it stays where it is", Checks.stateOf(x).equals(before), true);
        x.go(0, 1);
        row("from where it is now", x, 0, 6, 2, 5, 8, 7, 6);
        row("back", x, 0, 0, 0);
    }

    private static void routeByTrust() {
        CHECKS.holds("III", "A ROUTE of a BOAT to a CELL by CELLS each of which it would go to:");
        for (int trust : new int[] {0, 9, 10, 19, 20, 99}) {
            ShyBoats x = Checks.onLake("lake 5;row hsdsh;boat a trust " + trust + " at 0 0;");
            CHECKS.due("shallow, trust " + trust, x.route(0, 1, -1), trust >= 10 ? 1 : -1);
            CHECKS.due("deep, trust " + trust, x.route(0, 2, -1), trust >= 20 ? 2 : -1);
            CHECKS.due("behind the deep, trust " + trust, x.route(0, 4, -1), trust >= 20 ? 4 : -1);
        }
        // where it is need not be one to which it would go
        ShyBoats y = Checks.onLake("lake 3;row hsh;boat a trust 10 at 0 0;dread 50-depth*45;");
        row("out of what it dreads", y, 0, 1, 1);
        CHECKS.due("to where it is", y.route(0, 0, -1), 0);
        CHECKS.due("not into what it dreads", y.route(0, 2, -1), -1);
    }

    private static void fewestSteps() {
        CHECKS.holds("III", "the fewest steps; of like ones CELL by CELL the first.");
        ShyBoats x = Checks.onLake("lake 3;row sss;row shs;row sss;boat a trust 10 at 1 1;");
        row("up, then left", x, 0, 0, 1, 0);
        row("up, then right", x, 0, 2, 1, 2);
        row("left, then down", x, 0, 6, 3, 6);
        row("right, then down", x, 0, 8, 5, 8);
        ShyBoats y = Checks.onLake("lake 4;row hsss;row ssss;row ssss;boat a trust 10 at 0 0;");
        row("along the first row", y, 0, 11, 1, 2, 3, 7, 11);
        row("not by the lowest cell of all, but cell by cell", y, 0, 9, 1, 5, 9);
        ShyBoats z = Checks.onLake("lake 4;row hsds;row ssss;boat a trust 10 at 0 0;");
        row("around the deep", z, 0, 3, 1, 5, 6, 7, 3);
        ShyBoats w = Checks.onLake("lake 4;row hsds;row ssss;boat a trust 20 at 0 0;");
        row("through the deep, as that is shorter", w, 0, 3, 1, 2, 3);
        ShyBoats v = Checks.onLake("lake 3;row shs;row lls;row sss;boat a trust 10 at 1 0;");
        row("the one way that leads there, not the first cell", v, 0, 6, 2, 5, 8, 7, 6);
        ShyBoats u = Checks.onLake("lake 3;row hsl;row hll;row hll;boat a trust 10 at 0 2;");
        row("through cell 0", u, 0, 1, 3, 0, 1);
        CHECKS.due("the gentlest through cell 0", u.gentle(0, 1, 0), 10);
    }

    private static void longRoute() {
        CHECKS.holds("III", "the fewest steps;");
        // the longest way: from end to end of a lake full of bends
        ShyBoats x = Checks.onLake("lake 8;row hhhhhhhh;row lllllllh;row hhhhhhhh;row hlllllll;row hhhhhhhh;row lllllllh;boat a trust 0 at 0 0;");
        CHECKS.due("steps", x.route(0, 47, -1), 26);
        CHECKS.due("the first", x.route(0, 47, 0), 1);
        CHECKS.due("the last but one", x.route(0, 47, 24), 39);
        CHECKS.due("the last", x.route(0, 47, 25), 47);
        CHECKS.due("no more", x.route(0, 47, 26), -1);
        ShyBoats y = Checks.onLake("lake 8;" + "row hhhhhhhh;".repeat(6) + "boat a trust 0 at 0 0;");
        CHECKS.due("from corner to corner", y.route(0, 47, -1), 12);
        CHECKS.due("the gentlest from corner to corner", y.gentle(0, 47, 0), 0);
        ShyBoats back = put("lake 8;" + "row hhhhhhhh;".repeat(6) + "boat a trust 0 at 0 0;", 47);
        CHECKS.due("back", back.route(0, 0, -1), 12);
        CHECKS.due("its first cell", back.route(0, 0, 0), 39);
        CHECKS.due("the gentlest back", back.gentle(0, 0, 0), 0);
        // no way leads over the edge into the next row
        ShyBoats z = Checks.onLake("lake 3;row llh;row hll;boat a trust 0 at 2 0;");
        CHECKS.due("no wrap-around", z.route(0, 3, -1), -1);
        CHECKS.due("nor for the gentlest", z.gentle(0, 3, 0), -1);
        ShyBoats w = Checks.onLake("lake 3;row llh;row hll;boat a trust 0 at 0 1;");
        CHECKS.due("nor back", w.route(0, 2, -1), -1);
    }

    private static void noRoute() {
        CHECKS.holds("Promise 15", "NONE when there is none, there are none such, or for others.");
        ShyBoats x = Checks.onLake("lake 3;row hsl;row llh;boat a trust 15 at 0 0;");
        int[][] none = {{0, 5, -1}, {0, 5, 0}, {-1, 0, -1}, {1, 0, -1}, {6, 0, -1}, {0, -1, -1}, {0, 6, -1}, {0, 48, -1}, {0, 2, -1}, {0, 3, -1},
            {0, 1, -2}, {0, 1, 1}, {0, 1, 47}, {0, 1, 48}, {0, 1, LOW}, {0, 1, HIGH}, {0, 0, 0}, {0, 0, -2}, {LOW, 1, -1}, {HIGH, 1, -1},
            {0, LOW, -1}, {0, HIGH, -1}};
        for (int[] row : none) {
            CHECKS.due("route " + Arrays.toString(row), x.route(row[0], row[1], row[2]), -1);
        }
        CHECKS.due("no lake", new ShyBoats().route(0, 0, -1), -1);
    }

    private static void nothingLearnt() {
        CHECKS.holds("III", "As all is now, alone (nothing learnt on the way):");
        ShyBoats x = Checks.onLake("lake 4;row hsdw;boat a trust 20 at 0 0;boat b trust 99 at 0 0;dread depth*10+wreck*5-bold;grows trust+50;");
        CHECKS.due("it would learn to go further, but does not", x.route(0, 3, -1), -1);
        CHECKS.due("two steps as it trusts now", x.route(0, 2, -1), 2);
        CHECKS.due("coins as it trusts now", x.gentle(0, 3, 1), 1);
        ShyBoats y = Checks.onLake("lake 4;row hsdw;boat a trust 25 at 0 0;dread depth*10+wreck*5;grows 0;");
        CHECKS.due("it would learn to fear, but does not", y.route(0, 3, -1), 3);
        y.go(0, 1);
        CHECKS.due("it has learnt", y.route(0, 3, -1), -1);
        ShyBoats z = Checks.onLake("lake 3;row hsd;boat a trust 10 at 0 0;boat b trust 99 at 0 0;dread depth*10-bold;fog at 1;");
        CHECKS.due("alone, though another is there", z.gentle(0, 2, 0), 20);
        CHECKS.due("and runs alone", z.runs(0, 1), 0);
        ShyBoats w = Checks.onLake("lake 3;row hsd;boat a trust 10 at 0 0;dread depth*10+sky*5;fog at 1;");
        w.hours(1);
        CHECKS.due("in the weather that is now", w.route(0, 1, -1), -1);
    }

    private static void gentlest() {
        CHECKS.holds("III", "The GENTLEST way to a CELL: by which the greatest DREAD of its CELLS is least, what is told is that");
        ShyBoats x = Checks.onLake("lake 4;row hdsl;row swls;row ssss;boat a trust 0 at 0 0;dread depth*10+wreck*50;");
        CHECKS.due("a long way around the deep", x.gentle(0, 7, 0), 10);
        CHECKS.due("the deep it can't go around", x.gentle(0, 2, 0), 20);
        CHECKS.due("the wreck itself", x.gentle(0, 5, 0), 70);
        ShyBoats y = Checks.onLake("lake 4;row hwsl;row lslh;boat a trust 0 at 0 0;dread depth*10+wreck*50;");
        CHECKS.due("the greatest lies on the way", y.gentle(0, 5, 0), 70);
        CHECKS.due("the greatest, not the sum", y.gentle(0, 2, 0), 70);
        ShyBoats z = Checks.onLake("lake 3;row hsd;boat a trust 0 at 0 0;dread 1000;");
        CHECKS.due("99 is a way", z.gentle(0, 2, 0), 99);
    }

    private static void gentlestToWhereItIs() {
        CHECKS.holds("III", "(0 to where it is).");
        ShyBoats x = Checks.onLake("lake 3;row hsd;boat a trust 7 at 0 0;dread 60-depth*20;");
        CHECKS.due("though it dreads that one", x.dread(0, 0, -1), 60);
        CHECKS.due("to where it is", x.gentle(0, 0, 0), 0);
        CHECKS.due("for no coin", x.gentle(0, 0, 1), 0);
        CHECKS.due("nor does that count for others", x.gentle(0, 1, 0), 40);
    }

    private static void coins() {
        CHECKS.holds("III", "COINS to a CELL: the fewest by which it would trust as much as that.");
        // trust, the dread to come up to, what a coin is worth, the coins
        int[][] rows = {{0, 0, 1, 0}, {0, 1, 1, 1}, {0, 99, 1, 99}, {0, 99, 99, 1}, {0, 99, 98, 2}, {10, 10, 5, 0}, {11, 10, 5, 0}, {99, 99, 1, 0},
            {9, 10, 5, 1}, {5, 10, 5, 1}, {4, 10, 5, 2}, {0, 10, 5, 2}, {0, 11, 5, 3}, {98, 99, 50, 1}, {0, 50, 25, 2}, {0, 51, 25, 3}, {99, 0, 1, 0}};
        for (int[] row : rows) {
            ShyBoats x = Checks.onLake("lake 3;row hsd;boat a trust " + row[0] + " at 0 0;dread " + row[1] + ";coax " + row[2] + ";");
            CHECKS.due("coins " + Arrays.toString(row), x.gentle(0, 2, 1), row[3]);
        }
        ShyBoats y = Checks.onLake("lake 3;row hsd;boat a trust 0 at 0 0;");
        CHECKS.due("a coin is worth 5 without", y.gentle(0, 2, 1), 4);
    }

    private static void gentleTold() {
        CHECKS.holds("Promise 16", "The GENTLEST way to a CELL: its greatest DREAD (what 0), COINS (1).");
        ShyBoats x = Checks.onLake("lake 3;row hsd;boat a trust 12 at 0 0;coax 3;");
        String before = Checks.stateOf(x);
        int[][] due = {{0, 0}, {10, 0}, {20, 3}};
        for (int cell = 0; cell < 3; cell++) {
            CHECKS.due("dread to " + cell, x.gentle(0, cell, 0), due[cell][0]);
            CHECKS.due("coins to " + cell, x.gentle(0, cell, 1), due[cell][1]);
        }
        CHECKS.due("nothing changes", Checks.stateOf(x).equals(before), true);
    }

    private static void noGentle() {
        CHECKS.holds("Promise 16", "NONE when there is no way, there are none such, or for others.");
        ShyBoats x = Checks.onLake("lake 3;row hsl;row llh;boat a trust 99 at 0 0;");
        int[][] none = {{0, 5, 0}, {0, 5, 1}, {0, 2, 0}, {0, 2, 1}, {0, 4, 0}, {-1, 0, 0}, {1, 0, 0}, {1, 0, 1}, {6, 0, 0}, {0, -1, 0}, {0, -1, 1},
            {0, 6, 0}, {0, 48, 0}, {0, 1, 2}, {0, 1, -1}, {0, 0, 2}, {0, 0, -1}, {0, 1, LOW}, {0, 1, HIGH}, {LOW, 1, 0}, {HIGH, 1, 0}, {0, LOW, 0},
            {0, HIGH, 0}};
        for (int[] row : none) {
            CHECKS.due("gentle " + Arrays.toString(row), x.gentle(row[0], row[1], row[2]), -1);
        }
        CHECKS.due("no lake", new ShyBoats().gentle(0, 0, 0), -1);
    }

    /** A BOAT that has been set into a CELL of a LAKE with a harbour in CELL 0. */
    private static ShyBoats put(String text, int cell) {
        ShyBoats x = Checks.onLake(text);
        int[] image = Checks.imageOf(x);
        image[5] = cell;
        if (!Checks.on(x, Checks.sealed(Arrays.copyOf(image, image.length - 1)))) {
            throw new IllegalStateException("not put into " + cell);
        }
        return x;
    }

    private static void runsTo(String what, ShyBoats x, int cell, int steps) {
        CHECKS.due(what + ", to", x.runs(0, 0), cell);
        CHECKS.due(what + ", steps", x.runs(0, 1), steps);
    }

    private static void runsToTheLeast() {
        CHECKS.holds("III", "It RUNS: CELL by CELL to the one beside it (no land) that it dreads least, as long as that is less than where it is");
        String slope = "lake 5;row hssss;boat a trust 0 at 0 0;dread home*10;";
        for (int cell = 0; cell < 5; cell++) {
            runsTo("down the slope from " + cell, put(slope, cell), 0, cell);
        }
        String flat = "lake 3;row hss;boat a trust 0 at 0 0;dread 30;";
        runsTo("as much is not less", put(flat, 2), 2, 0);
        String valley = "lake 5;row hsdss;boat a trust 0 at 0 0;dread 40-home*10+depth/2*30;";
        runsTo("up to where none beside it is less, though one further is", put(valley, 1), 1, 0);
        runsTo("out of the deep to the least, not the first", put(valley, 2), 4, 2);
        String land = "lake 3;row hss;row lls;boat a trust 0 at 0 0;dread 50-home*10;";
        runsTo("around land", put(land, 0), 5, 3);
        String shut = "lake 3;row hll;row lss;boat a trust 0 at 0 0;dread 90-depth*50;";
        runsTo("land is beside it alone", put(shut, 0), 0, 0);
        String edges = "lake 3;row hls;row hlh;row slh;boat a trust 0 at 0 0;dread 20-depth*10;";
        runsTo("no wrap-around to the right", put(edges.replace("hls", "hlh"), 5), 5, 0);
        runsTo("no wrap-around to the left", put(edges.replace("slh", "hlh"), 3), 3, 0);
        String wide = "lake 8;row hsssssss;" + "row ssssssss;".repeat(5) + "boat a trust 0 at 0 0;dread home*8;";
        runsTo("from corner to corner", put(wide, 47), 0, 12);
    }

    private static void runsOfLikeOnes() {
        CHECKS.holds("III", "(of like ones the first CELL).");
        String cross = "lake 3;row lsl;row sws;row hsl;boat a trust 0 at 0 2;dread depth*10;";
        runsTo("up of four", put(cross, 4), 1, 1);
        String three = "lake 3;row ldl;row sws;row lsh;boat a trust 0 at 2 2;dread depth*10+wreck;";
        runsTo("left of three, then none is less", put(three, 4), 3, 1);
        String two = "lake 3;row ldl;row dws;row lsh;boat a trust 0 at 2 2;dread depth*10+wreck;";
        runsTo("right of two, then on", put(two, 4), 8, 2);
        String one = "lake 3;row ldl;row dwd;row hsl;boat a trust 0 at 0 2;dread depth*10+wreck;";
        runsTo("down, as that is least, then on", put(one, 4), 6, 2);
    }

    private static void runsTold() {
        CHECKS.holds("Promise 17", "It RUNS: to which CELL (what 0), in how many steps (1).");
        ShyBoats x = Checks.onLake("lake 3;row hsd;boat a trust 20 at 0 0;boat b trust 20 at 0 0;");
        x.go(0, 1);
        x.go(0, 2);
        x.go(1, 1);
        String before = Checks.stateOf(x);
        CHECKS.due("a to", x.runs(0, 0), 0);
        CHECKS.due("a steps", x.runs(0, 1), 2);
        CHECKS.due("b to", x.runs(1, 0), 0);
        CHECKS.due("b steps", x.runs(1, 1), 1);
        CHECKS.due("nothing changes", Checks.stateOf(x).equals(before), true);
        x.go(0, 1);
        x.go(0, 0);
        CHECKS.due("it stays", x.runs(0, 1), 0);
        CHECKS.due("where it is", x.runs(0, 0), 0);
    }

    private static void noRuns() {
        CHECKS.holds("Promise 17", "NONE when there is none such, or for others.");
        ShyBoats x = Checks.onLake("lake 3;row hsd;boat a trust 20 at 0 0;");
        int[][] none = {{-1, 0}, {-1, 1}, {1, 0}, {1, 1}, {6, 0}, {LOW, 0}, {HIGH, 0}, {0, -1}, {0, 2}, {0, LOW}, {0, HIGH}};
        for (int[] row : none) {
            CHECKS.due("runs " + Arrays.toString(row), x.runs(row[0], row[1]), -1);
        }
        CHECKS.due("no lake", new ShyBoats().runs(0, 0), -1);
    }
}
