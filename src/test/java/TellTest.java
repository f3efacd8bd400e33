/** Promises 6 to 13: what is told of a lake and of what is in it. */
public final class TellTest {
    private static final Checks CHECKS = new Checks();
    private static final String LAKE = "lake 4;row sdwl;row hsdl;boat ann trust 15 at 0 1;boat zyxwvu trust 99 at 0 1;"
        + "hand m skill 3;hand sueyou skill 8;likes ann sueyou 4;likes ann m 9;likes zyxwvu m 1;likes ann sueyou 5;"
        + "storm at 7;rain at 0;fog at 99;calm at 50;row lllh;boat c trust 0 at 3 2;coax 9;";

    public static void main(String[] args) {
        counts();
        letters();
        boats();
        cells();
        hands();
        skies();
        kept();
        CHECKS.finish();
    }

    private static void counts() {
        ShyBoats x = Checks.onLake(LAKE);
        int[] due = {4, 3, 3, 2, 0, 1, 0, 0, 114, 0, 0, 0};
        for (int what = 0; what < due.length; what++) {
            CHECKS.due("has " + what, x.has(what), due[what]);
        }
        x.hours(8);
        x.coax(2, 3);
        x.go(2, 11);
        x.go(0, 5);
        x.man(0, 1);
        x.go(2, 10);
        Checks.trials(x, 1, 0, 1, 1, 0, 4, 1);
        int[] later = {4, 3, 3, 2, 8, 3, 3, 0, 141, 1, 3, 4};
        for (int what = 0; what < later.length; what++) {
            CHECKS.due("later has " + what, x.has(what), later[what]);
        }
        ShyBoats y = Checks.onLake("lake 3;row hsd;boat a trust 5 at 0 0;boat b trust 3 at 0 0;");
        y.go(0, 1);
        y.go(1, 1);
        y.go(1, 1);
        CHECKS.due("balks of all", y.has(7), 3);
        CHECKS.due("has -1", x.has(-1), -1);
        CHECKS.due("has 12", x.has(12), -1);
    }

    private static void letters() {
        ShyBoats x = Checks.onLake(LAKE);
        String[][] names = {{"ann", "zyxwvu", "c"}, {"m", "sueyou"}};
        for (int kind = 0; kind < 2; kind++) {
            for (int which = 0; which < names[kind].length; which++) {
                String name = names[kind][which];
                for (int k = 0; k < 6; k++) {
                    int due = k < name.length() ? name.charAt(k) - 'a' + 1 : 0;
                    CHECKS.due("letter " + k + " of " + name, x.letter(kind, which, k), due);
                }
            }
        }
        int[][] none = {{0, 0, 6}, {0, 0, -1}, {0, 3, 0}, {0, -1, 0}, {1, 2, 0}, {1, -1, 0}, {2, 0, 0}, {-1, 0, 0}};
        for (int[] row : none) {
            CHECKS.due("no such letter", x.letter(row[0], row[1], row[2]), -1);
        }
    }

    private static void boats() {
        ShyBoats x = Checks.onLake(LAKE);
        int[][] due = {{4, 15, 0, -1, 15, -1}, {4, 99, 0, -1, 99, -1}, {11, 0, 0, -1, 0, -1}};
        for (int boat = 0; boat < 3; boat++) {
            for (int what = 0; what < 6; what++) {
                CHECKS.due("boat " + boat + " " + what, x.boat(boat, what), due[boat][what]);
            }
        }
        x.coax(0, 1);
        x.man(0, 1);
        x.go(0, 5);
        x.go(0, 6);
        x.go(0, 6);
        x.coax(0, 1);
        int[] later = {6, 33, 0, 1, 15};
        for (int what = 0; what < 5; what++) {
            CHECKS.due("later boat 0 " + what, x.boat(0, what), later[what]);
        }
        CHECKS.due("boat -1", x.boat(-1, 0), -1);
        CHECKS.due("boat 3", x.boat(3, 0), -1);
        CHECKS.due("what -1", x.boat(0, -1), -1);
    }

    private static void cells() {
        ShyBoats x = Checks.onLake(LAKE);
        int[] depth = {1, 2, 2, -1, 0, 1, 2, -1, -1, -1, -1, 0};
        int[] wreck = {0, 0, 1, 0, 0, 0, 0, 0, 0, 0, 0, 0};
        int[] home = {1, 2, 3, 2, 0, 1, 2, 1, 1, 2, 1, 0};
        for (int cell = 0; cell < 12; cell++) {
            CHECKS.due("depth of " + cell, x.cell(cell, 0), depth[cell]);
            CHECKS.due("wreck of " + cell, x.cell(cell, 1), wreck[cell]);
            CHECKS.due("home of " + cell, x.cell(cell, 2), home[cell]);
            CHECKS.due("boats in " + cell, x.cell(cell, 3), cell == 4 ? 3 : cell == 11 ? 4 : 0);
            CHECKS.due("other of " + cell, x.cell(cell, 4), -1);
            CHECKS.due("below of " + cell, x.cell(cell, -1), -1);
        }
        CHECKS.due("cell -1", x.cell(-1, 0), -1);
        CHECKS.due("cell 12", x.cell(12, 0), -1);
        x.go(1, 5);
        CHECKS.due("it has gone", x.cell(4, 3), 1);
        CHECKS.due("to there", x.cell(5, 3), 2);
        ShyBoats dry = Checks.onLake("lake 3;row sdl;");
        for (int cell = 0; cell < 3; cell++) {
            CHECKS.due("home without harbour", dry.cell(cell, 2), 99);
        }
    }

    private static void hands() {
        ShyBoats x = Checks.onLake(LAKE);
        CHECKS.due("skill", x.hand(0, 0), 3);
        CHECKS.due("skill", x.hand(1, 0), 8);
        CHECKS.due("in none", x.hand(0, 1), -1);
        x.man(2, 0);
        CHECKS.due("in c", x.hand(0, 1), 2);
        int[][] none = {{0, 2}, {0, -1}, {2, 0}, {-1, 0}, {-1, 1}, {2, 1}};
        for (int[] row : none) {
            CHECKS.due("no such hand", x.hand(row[0], row[1]), -1);
        }
        int[][] likes = {{9, 5}, {1, 0}, {0, 0}};
        for (int boat = -1; boat < 4; boat++) {
            for (int hand = -1; hand < 3; hand++) {
                boolean such = boat >= 0 && boat < 3 && hand >= 0 && hand < 2;
                CHECKS.due("likes", x.likes(boat, hand), such ? likes[boat][hand] : -1);
            }
        }
    }

    private static void skies() {
        ShyBoats x = Checks.onLake(LAKE);
        for (int hour = 0; hour < 1000; hour++) {
            int due = hour < 7 ? 1 : hour < 50 ? 3 : hour < 99 ? 0 : 2;
            CHECKS.due("sky at " + hour, x.sky(hour), due);
        }
        CHECKS.due("sky at -1", x.sky(-1), -1);
        CHECKS.due("sky at 1000", x.sky(1000), -1);
        ShyBoats y = Checks.onLake("lake 3;storm at 99;");
        CHECKS.due("calm ahead of all", y.sky(98), 0);
        CHECKS.due("then storm", y.sky(99), 3);
    }

    private static void kept() {
        ShyBoats x = Checks.onLake("lake 3;row hsd;row hhh;boat a trust 15 at 0 0;boat b trust 5 at 2 1;");
        CHECKS.due("nothing yet", x.kept(0, 0), -1);
        x.go(0, 1);
        x.hours(200);
        x.go(1, 2);
        x.go(0, 2);
        x.hours(200);
        x.hours(200);
        x.hours(200);
        x.hours(199);
        x.go(1, 4);
        int[][] due = {{0, 0, 1, 1}, {200, 1, 2, 0}, {200, 0, 2, 0}, {999, 1, 4, 1}};
        for (int k = 0; k < 4; k++) {
            for (int what = 0; what < 4; what++) {
                CHECKS.due("kept " + k + " " + what, x.kept(k, what), due[k][what]);
            }
            CHECKS.due("kept other", x.kept(k, 4), -1);
            CHECKS.due("kept below", x.kept(k, -1), -1);
        }
        CHECKS.due("kept 4", x.kept(4, 0), -1);
        CHECKS.due("kept -1", x.kept(-1, 0), -1);
        for (int i = 0; i < 38; i++) {
            x.go(1, i % 2 == 0 ? 5 : 4);
        }
        CHECKS.due("40 are told", x.has(9), 40);
        CHECKS.due("the two oldest are not", x.kept(0, 2), 2);
        CHECKS.due("of boat 0", x.kept(0, 1), 0);
        CHECKS.due("then the fourth", x.kept(1, 0), 999);
        for (int k = 2; k < 40; k++) {
            CHECKS.due("kept " + k, x.kept(k, 2), k % 2 == 0 ? 5 : 4);
        }
        CHECKS.due("kept 40", x.kept(40, 0), -1);
    }
}
