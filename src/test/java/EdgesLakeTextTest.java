/** Term I, the STATEMENTS of a LAKE, sentence by sentence (promise 4 by them). */
public final class EdgesLakeTextTest {
    private static final Checks CHECKS = new Checks();
    private static final String ROWS = "lake 3;row hsd;row wlh;";
    private static final String SIX_ROWS = "lake 3;" + "row hhh;".repeat(6);
    private static final String NAMED = ROWS + "boat a trust 5 at 0 0;boat b trust 5 at 0 0;hand m skill 2;hand n skill 2;";

    public static void main(String[] args) {
        statements();
        columns();
        cells();
        sixRows();
        boatNumbers();
        boatHarbours();
        sixBoats();
        skills();
        sixHands();
        likings();
        weatherHours();
        weatherFromThatHour();
        sumsOneEach();
        coins();
        CHECKS.finish();
    }

    private static void statements() {
        CHECKS.holds("I", "A LAKE is a text: { STATEMENT ; } (60 at most):");
        String sixty = "lake 3;" + "coax 7;".repeat(59);
        CHECKS.goodLake("lake 3;", 1);
        CHECKS.goodLake("lake 3;" + "coax 7;".repeat(58), 59);
        CHECKS.goodLake(sixty, 60);
        CHECKS.goodLake(sixty + " \n", 60);
        CHECKS.faultyLake(5, sixty + "|coax 7;");
        CHECKS.faultyLake(1, "lake 3|");
        CHECKS.faultyLake(1, "lake 3;coax 5|");
        CHECKS.faultyLake(1, "lake 3;|;");
        CHECKS.faultyLake(1, "lake 3|,coax 5;");
    }

    private static void columns() {
        CHECKS.holds("I", "lake N (3 .. 8 COLUMNS; the first STATEMENT, and it alone);");
        for (int columns = 3; columns <= 8; columns++) {
            ShyBoats x = new ShyBoats();
            CHECKS.due("lake " + columns, Checks.lake(x, "lake " + columns + ";"), 1);
            CHECKS.due("columns", x.has(0), columns);
        }
        for (String number : new String[] {"0", "1", "2", "9", "10", "33", "9999", "0002", "0009"}) {
            CHECKS.faultyLake(2, "lake |" + number + ";");
        }
        for (String other : new String[] {"row hsd", "boat a trust 1 at 0 0", "hand a skill 1", "likes a b 1", "calm at 1", "rain at 1",
            "fog at 1", "storm at 1", "dread 1", "grows 1", "falls 1", "coax 1"}) {
            CHECKS.faultyLake(1, "|" + other + ";");
            CHECKS.faultyLake(1, "|" + other + ";lake 3;");
        }
        CHECKS.faultyLake(1, "lake 3;|lake 3;");
        CHECKS.faultyLake(1, "lake 3;row hsd;|lake 3;");
        CHECKS.faultyLake(1, "lake 3;|lake 9");
    }

    private static void cells() {
        CHECKS.holds("I", "row CELLS (as many letters as there are COLUMNS: h harbour, s shallow, d deep, w a wreck in the deep, l land;");
        String letters = "hsdwlhsd";
        for (int columns = 3; columns <= 8; columns++) {
            String lake = "lake " + columns + ";row ";
            CHECKS.goodLake(lake + letters.substring(0, columns) + ";", 2);
            CHECKS.faultyLake(1, lake + "|" + letters.substring(0, columns - 1) + ";");
            CHECKS.faultyLake(1, lake + "|" + letters.substring(0, columns - 1) + "h" + "h;");
            CHECKS.faultyLake(1, lake + "|h;");
            CHECKS.faultyLake(1, lake + "|;");
        }
        ShyBoats x = Checks.onLake("lake 5;row hsdwl;");
        int[] depth = {0, 1, 2, 2, -1};
        for (int cell = 0; cell < 5; cell++) {
            CHECKS.due("depth " + cell, x.cell(cell, 0), depth[cell]);
            CHECKS.due("wreck " + cell, x.cell(cell, 1), cell == 3 ? 1 : 0);
            CHECKS.due("home " + cell, x.cell(cell, 2), cell);
        }
        for (char letter = 'a'; letter <= 'z'; letter++) {
            if ("hsdwl".indexOf(letter) < 0) {
                CHECKS.faultyLake(1, "lake 3;row |hs" + letter + ";");
                CHECKS.faultyLake(1, "lake 3;row |" + letter + "sh;");
            } else {
                CHECKS.goodLake("lake 3;row hs" + letter + ";", 2);
            }
        }
    }

    private static void sixRows() {
        CHECKS.holds("I", "6 ROWS);");
        for (int rows = 0; rows <= 6; rows++) {
            ShyBoats x = new ShyBoats();
            CHECKS.due(rows + " rows", Checks.lake(x, "lake 8;" + "row lsdwhsdw;".repeat(rows)), rows + 1);
            CHECKS.due("rows", x.has(1), rows);
            CHECKS.due("the last cell", x.cell(8 * rows - 1, 1), rows == 0 ? -1 : 1);
            CHECKS.due("no more", x.cell(8 * rows, 1), -1);
        }
        CHECKS.faultyLake(5, SIX_ROWS + "|row hhh;");
    }

    private static void boatNumbers() {
        CHECKS.holds("I", "boat NAME trust N at N N (0 .. 99; a COLUMN, a ROW told already, of a harbour;");
        for (int trust : new int[] {0, 1, 98, 99}) {
            ShyBoats x = Checks.onLake(ROWS + "boat a trust " + trust + " at 0 0;");
            CHECKS.due("trust", x.boat(0, 1), trust);
        }
        CHECKS.faultyLake(2, ROWS + "boat a trust |100 at 0 0;");
        CHECKS.faultyLake(2, ROWS + "boat a trust |9999 at 0 0;");
        for (int columns = 3; columns <= 8; columns++) {
            String lake = "lake " + columns + ";row " + "h".repeat(columns) + ";row " + "h".repeat(columns) + ";";
            for (int column = 0; column < columns; column++) {
                ShyBoats x = Checks.onLake(lake + "boat a trust 1 at " + column + " 1;");
                CHECKS.due("cell", x.boat(0, 0), columns + column);
            }
            CHECKS.faultyLake(2, lake + "boat a trust 1 at |" + columns + " 0;");
            CHECKS.faultyLake(2, lake + "boat a trust 1 at |9999 0;");
        }
        for (int rows = 1; rows <= 6; rows++) {
            String lake = "lake 3;" + "row shs;".repeat(rows);
            ShyBoats x = Checks.onLake(lake + "boat a trust 1 at 1 " + (rows - 1) + ";");
            CHECKS.due("in the last row", x.boat(0, 0), 3 * rows - 2);
            CHECKS.faultyLake(2, lake + "boat a trust 1 at 1 |" + rows + ";");
            CHECKS.faultyLake(2, lake + "boat a trust 1 at 1 |9999;");
        }
    }

    private static void boatHarbours() {
        CHECKS.holds("I", "a ROW told already, of a harbour;");
        CHECKS.faultyLake(2, "lake 3;boat a trust 1 at 0 |0;row hhh;");
        CHECKS.faultyLake(2, "lake 3;row hhh;boat a trust 1 at 0 |1;row hhh;");
        CHECKS.goodLake("lake 3;row hhh;boat a trust 1 at 0 0;row hhh;boat b trust 1 at 0 1;", 5);
        CHECKS.faultyLake(2, ROWS + "boat a trust 1 at 1 |0;");
        CHECKS.faultyLake(2, ROWS + "boat a trust 1 at 2 |0;");
        CHECKS.faultyLake(2, ROWS + "boat a trust 1 at 0 |1;");
        CHECKS.faultyLake(2, ROWS + "boat a trust 1 at 1 |1;");
        CHECKS.goodLake(ROWS + "boat a trust 1 at 2 1;", 4);
    }

    /** So many STATEMENTS, each with a NAME of its own. */
    private static String many(int count, String head, String tail) {
        StringBuilder all = new StringBuilder(SIX_ROWS);
        for (int i = 0; i < count; i++) {
            all.append(head).append((char) ('a' + i)).append(tail);
        }
        return all.toString();
    }

    private static void sixBoats() {
        CHECKS.holds("I", "6 BOATS);");
        for (int boats = 0; boats <= 6; boats++) {
            ShyBoats x = Checks.onLake(many(boats, "boat ", " trust 7 at 2 5;"));
            CHECKS.due("boats", x.has(2), boats);
            CHECKS.due("the last", x.boat(boats - 1, 0), boats == 0 ? -1 : 17);
            CHECKS.due("no more", x.boat(boats, 0), -1);
        }
        CHECKS.faultyLake(5, many(6, "boat ", " trust 7 at 2 5;") + "|boat z trust 7 at 2 5;");
        CHECKS.goodLake(many(6, "boat ", " trust 7 at 2 5;") + "hand z skill 1;", 14);
    }

    private static void skills() {
        CHECKS.holds("I", "hand NAME skill N (0 .. 9;");
        for (int skill = 0; skill <= 9; skill++) {
            CHECKS.due("skill", Checks.onLake("lake 3;hand a skill " + skill + ";").hand(0, 0), skill);
        }
        CHECKS.faultyLake(2, "lake 3;hand a skill |10;");
        CHECKS.faultyLake(2, "lake 3;hand a skill |9999;");
    }

    private static void sixHands() {
        CHECKS.holds("I", "6 HANDS);");
        for (int hands = 0; hands <= 6; hands++) {
            ShyBoats x = Checks.onLake(many(hands, "hand ", " skill 7;"));
            CHECKS.due("hands", x.has(3), hands);
            CHECKS.due("the last", x.hand(hands - 1, 0), hands == 0 ? -1 : 7);
            CHECKS.due("no more", x.hand(hands, 0), -1);
        }
        CHECKS.faultyLake(5, many(6, "hand ", " skill 7;") + "|hand z skill 7;");
        CHECKS.goodLake(many(6, "hand ", " skill 7;") + "boat z trust 1 at 0 0;", 14);
    }

    private static void likings() {
        CHECKS.holds("I", "likes NAME NAME N (a BOAT, a HAND, 0 .. 99; the last one of these two counts, 0 without);");
        for (int much : new int[] {0, 1, 98, 99}) {
            CHECKS.due("likes", Checks.onLake(NAMED + "likes a n " + much + ";").likes(0, 1), much);
        }
        CHECKS.faultyLake(2, NAMED + "likes a n |100;");
        CHECKS.faultyLake(2, NAMED + "likes a n |9999;");
        CHECKS.faultyLake(3, NAMED + "likes |m n 1;");
        CHECKS.faultyLake(3, NAMED + "likes a |b 1;");
        CHECKS.faultyLake(3, NAMED + "likes |m a 1;");
        ShyBoats x = Checks.onLake(NAMED + "likes a n 9;likes b m 4;likes a n 0;likes a m 2;likes a n 3;likes b m 8;likes b m 5;");
        CHECKS.due("a m", x.likes(0, 0), 2);
        CHECKS.due("a n, the last one, not the greatest", x.likes(0, 1), 3);
        CHECKS.due("b m", x.likes(1, 0), 5);
        CHECKS.due("b n, without", x.likes(1, 1), 0);
        CHECKS.goodLake(NAMED + "likes a n 1;".repeat(53), 60);
    }

    /** So many skies from an HOUR on, each a kind of its own in turn. */
    private static String skies(int count, int from) {
        String[] kinds = {"calm", "rain", "fog", "storm"};
        StringBuilder all = new StringBuilder("lake 3;");
        for (int i = 0; i < count; i++) {
            all.append(kinds[i % 4]).append(" at ").append(from + i).append(';');
        }
        return all.toString();
    }

    private static void weatherHours() {
        CHECKS.holds("I", "calm, rain, fog or storm, then at N (from that HOUR on, 0 .. 99; 10 of these, no HOUR twice;");
        for (String kind : new String[] {"calm", "rain", "fog", "storm"}) {
            CHECKS.goodLake("lake 3;" + kind + " at 0;", 2);
            CHECKS.goodLake("lake 3;" + kind + " at 99;", 2);
            CHECKS.faultyLake(2, "lake 3;" + kind + " at |100;");
            CHECKS.faultyLake(2, "lake 3;" + kind + " at |9999;");
            CHECKS.goodLake(skies(9, 1) + kind + " at 0;", 11);
            CHECKS.faultyLake(5, skies(10, 1) + "|" + kind + " at 0;");
            CHECKS.faultyLake(2, "lake 3;rain at 7;" + kind + " at |7;");
            CHECKS.faultyLake(2, "lake 3;" + kind + " at 7;storm at 8;" + kind + " at |7;");
            CHECKS.faultyLake(2, "lake 3;fog at 0;" + kind + " at |0000;");
            CHECKS.faultyLake(2, skies(9, 91) + kind + " at |99;");
        }
    }

    private static void weatherFromThatHour() {
        CHECKS.holds("I", "calm ahead of all);");
        ShyBoats x = Checks.onLake("lake 3;storm at 40;rain at 3;calm at 41;fog at 99;");
        int[][] due = {{0, 0}, {2, 0}, {3, 1}, {39, 1}, {40, 3}, {41, 0}, {98, 0}, {99, 2}, {999, 2}};
        for (int[] row : due) {
            CHECKS.due("sky at " + row[0], x.sky(row[0]), row[1]);
        }
        CHECKS.due("from 0 on", Checks.onLake("lake 3;fog at 0;").sky(0), 2);
        ShyBoats none = Checks.onLake("lake 3;");
        CHECKS.due("without any", none.sky(0) + none.sky(99) + none.sky(999), 0);
        ShyBoats all = Checks.onLake(skies(10, 90));
        for (int hour = 90; hour < 100; hour++) {
            CHECKS.due("sky at " + hour, all.sky(hour), (hour - 90) % 4);
        }
    }

    private static void sumsOneEach() {
        CHECKS.holds("I", "dread SUM, grows SUM, falls SUM (one each);");
        String[] sums = {"dread 1;", "grows 1;", "falls 1;"};
        CHECKS.goodLake("lake 3;dread 1;grows 1;falls 1;", 4);
        CHECKS.goodLake("lake 3;falls 1;dread 1;grows 1;", 4);
        for (String sum : sums) {
            CHECKS.goodLake("lake 3;" + sum, 2);
            CHECKS.faultyLake(5, "lake 3;" + sum + "|" + sum);
            CHECKS.faultyLake(5, "lake 3;dread 1;grows 1;falls 1;|" + sum);
            CHECKS.faultyLake(5, "lake 3;dread 0;grows 0;falls 0;|" + sum);
        }
        ShyBoats x = Checks.onLake(ROWS + "boat a trust 20 at 0 0;falls 30;grows 40;dread depth*15;");
        CHECKS.due("goes", x.go(0, 1), 1);
        CHECKS.due("grows", x.boat(0, 1), 40);
        ShyBoats y = Checks.onLake(ROWS + "boat a trust 10 at 0 0;falls 30;grows 40;dread depth*15;");
        CHECKS.due("balks", y.go(0, 1), 0);
        CHECKS.due("falls", y.boat(0, 1), 30);
    }

    private static void coins() {
        CHECKS.holds("I", "coax N (1 .. 99, the last one counts, 5 without).");
        String lake = ROWS + "boat a trust 0 at 0 0;";
        CHECKS.faultyLake(2, "lake 3;coax |0;");
        CHECKS.faultyLake(2, "lake 3;coax |0000;");
        CHECKS.faultyLake(2, "lake 3;coax |100;");
        CHECKS.faultyLake(2, "lake 3;coax |9999;");
        CHECKS.due("1", Checks.onLake(lake + "coax 1;").coax(0, 1), 1);
        CHECKS.due("99", Checks.onLake(lake + "coax 99;").coax(0, 1), 99);
        CHECKS.due("the last one", Checks.onLake("lake 3;coax 9;" + lake.substring(7) + "coax 50;coax 4;").coax(0, 2), 8);
        CHECKS.due("5 without", Checks.onLake(lake).coax(0, 2), 10);
    }
}
