/** Term I, SUMS and what their words are worth, sentence by sentence (promises 14 and 24 by them). */
public final class EdgesSumsTest {
    private static final Checks CHECKS = new Checks();

    public static void main(String[] args) {
        sumsAndProducts();
        parts();
        partsOfTrust();
        depthAndWreck();
        homes();
        homesWithoutHarbour();
        skies();
        balksAndSkill();
        aheadAndBold();
        trustAndFear();
        fromTheLeftOn();
        quotients();
        bounds();
        CHECKS.finish();
    }

    /** What the dread of a lone BOAT for a shallow is by this SUM. */
    private static int worth(String sum) {
        return Checks.onLake("lake 3;row hsd;boat a trust 7 at 0 0;dread " + sum + ";").dread(0, 1, -1);
    }

    private static void faulty(int fault, String marked) {
        CHECKS.faultyLake(fault, "lake 3;dread " + marked);
    }

    private static void sumsAndProducts() {
        CHECKS.holds("I", "SUM: PRODUCT { + or - PRODUCT }. PRODUCT: PART { * or / PART }.");
        CHECKS.due("one part", worth("7"), 7);
        CHECKS.due("products ahead of sums", worth("2+3*4"), 14);
        CHECKS.due("quotients ahead of differences", worth("20-9/2"), 16);
        CHECKS.due("a row of 700", worth("1+".repeat(700) + "1-650"), 51);
        CHECKS.due("a row of products", worth("1*".repeat(700) + "9"), 9);
        faulty(1, "|;");
        faulty(1, "|+5;");
        faulty(1, "|-5;");
        faulty(1, "|*5;");
        faulty(1, "|/5;");
        faulty(1, "5+|;");
        faulty(1, "5*|;");
        faulty(1, "5+|-5;");
        faulty(1, "5*|/5;");
        faulty(1, "5 |5;");
        faulty(1, "5|%5;");
    }

    private static void parts() {
        CHECKS.holds("I", "PART: N (1 to 4 digits); depth; wreck; home; sky; balks; skill; ahead; bold;");
        for (String part : new String[] {"0", "9", "99", "999", "9999", "0000", "0009", "depth", "wreck", "home", "sky", "balks", "skill",
            "ahead", "bold"}) {
            CHECKS.goodLake("lake 3;dread " + part + ";grows " + part + ";falls " + part + ";", 4);
        }
        CHECKS.due("9999", worth("9999-9950"), 49);
        CHECKS.due("0009", worth("0009"), 9);
        faulty(1, "0000|0;");
        faulty(1, "1000|0;");
        CHECKS.holds("I", "( SUM ) ; min ( SUM , SUM ) ; max ( SUM , SUM ) ;");
        CHECKS.due("( SUM )", worth("(2+3)*4"), 20);
        CHECKS.due("min", worth("min(7,9)+min(9,7)+min(8,8)"), 22);
        CHECKS.due("max", worth("max(7,9)+max(9,7)+max(8,8)"), 26);
        CHECKS.due("of numbers below 0", worth("50+min(0-3,2)+max(0-3,0-2)"), 45);
        CHECKS.due("of sums", worth("min(1+2*3,20-6)*max((1),2)"), 14);
        faulty(1, "(|);");
        faulty(1, "(5|;");
        faulty(1, "5|);");
        faulty(1, "min|;");
        faulty(1, "min |5;");
        faulty(1, "min(|,5);");
        faulty(1, "min(5|);");
        faulty(1, "min(5,|);");
        faulty(1, "min(5,6|,7);");
        faulty(1, "max(5,6|;");
        faulty(1, "(5|,6);");
    }

    private static void partsOfTrust() {
        CHECKS.holds("I", "in grows, falls: trust; fear.");
        for (String part : new String[] {"trust", "fear"}) {
            faulty(1, "|" + part + ";");
            faulty(1, "5+min(2,|" + part + ");");
            CHECKS.goodLake("lake 3;grows " + part + ";falls 5*(" + part + ");", 3);
        }
        // words of QUESTIONS, of STATEMENTS, and none at all
        for (String part : new String[] {"number", "across", "down", "boats 5", "all", "not 5", "dread", "grows", "lake", "first", "x", "depths"}) {
            for (String sum : new String[] {"dread", "grows", "falls"}) {
                CHECKS.faultyLake(1, "lake 3;" + sum + " |" + part + ";");
            }
        }
    }

    private static void depthAndWreck() {
        CHECKS.holds("I", "Of a CELL 0 harbour, 1 shallow, 2 deep; 1 with a wreck, else 0;");
        ShyBoats x = Checks.onLake("lake 5;row hsdwl;boat a trust 7 at 0 0;dread depth*10+wreck+5;");
        int[] due = {5, 15, 25, 26, -1};
        for (int cell = 0; cell < 5; cell++) {
            CHECKS.due("cell " + cell, x.dread(0, cell, -1), due[cell]);
        }
    }

    private static void homes() {
        CHECKS.holds("I", "how many COLUMNS and ROWS together the nearest harbour is off,");
        // land between them counts as any CELL, and a harbour told last is one, too
        ShyBoats x = Checks.onLake("lake 8;row hssssssd;row llllllll;row dddddddd;boat a trust 7 at 0 0;dread home;row ssssssss;row ssssssss;row dddddddh;");
        for (int cell = 0; cell < 48; cell++) {
            int first = cell % 8 + cell / 8;
            int due = Math.min(first, 12 - first);
            CHECKS.due("cell " + cell, x.cell(cell, 2), due);
            CHECKS.due("dread of " + cell, x.dread(0, cell, -1), cell / 8 == 1 ? -1 : due);
        }
    }

    private static void homesWithoutHarbour() {
        CHECKS.holds("I", "99 without;");
        ShyBoats x = Checks.onLake("lake 3;row sdw;row lss;");
        for (int cell = 0; cell < 6; cell++) {
            CHECKS.due("cell " + cell, x.cell(cell, 2), 99);
        }
    }

    private static void skies() {
        CHECKS.holds("I", "0 calm, 1 rain, 2 fog, 3 storm;");
        ShyBoats x = Checks.onLake("lake 3;row hsd;boat a trust 7 at 0 0;dread 10+sky;rain at 1;fog at 2;storm at 3;calm at 4;");
        for (int hour = 0; hour < 5; hour++) {
            CHECKS.due("in hour " + hour, x.dread(0, 1, -1), 10 + hour % 4);
            x.hours(1);
        }
    }

    private static void balksAndSkill() {
        CHECKS.holds("I", "how often the BOAT balked; skill of its HAND, 0 without;");
        ShyBoats x = Checks.onLake("lake 3;row hsd;boat a trust 0 at 0 0;boat b trust 0 at 0 0;hand m skill 9;hand n skill 4;dread 50+balks*10-skill;");
        CHECKS.due("neither", x.dread(0, 1, -1), 50);
        x.go(0, 1);
        x.go(0, 1);
        CHECKS.due("it balked twice", x.dread(0, 1, -1), 70);
        CHECKS.due("the other one did not", x.dread(1, 1, -1), 50);
        x.man(0, 0);
        CHECKS.due("of skill 9", x.dread(0, 1, -1), 61);
        CHECKS.due("not in the other", x.dread(1, 1, -1), 50);
        x.man(0, 1);
        CHECKS.due("of skill 4", x.dread(0, 1, -1), 66);
        x.man(0, -1);
        CHECKS.due("0 without", x.dread(0, 1, -1), 70);
    }

    private static void aheadAndBold() {
        CHECKS.holds("I", "1 if a BOAT goes ahead of it in a FILE, else 0; how that one trusts, 0 without;");
        ShyBoats x = Checks.onLake("lake 3;row hsd;boat a trust 7 at 0 0;boat b trust 41 at 0 0;boat c trust 0 at 0 0;dread 5+ahead*50+bold;");
        CHECKS.due("alone", x.dread(0, 1, -1), 5);
        CHECKS.due("behind b", x.dread(0, 1, 1), 96);
        CHECKS.due("behind c, who trusts 0", x.dread(0, 1, 2), 55);
        CHECKS.due("b behind a", x.dread(1, 1, 0), 62);
    }

    private static void trustAndFear() {
        CHECKS.holds("I", "how it trusts ahead of it; its DREAD.)");
        ShyBoats x = Checks.onLake("lake 3;row hsd;boat a trust 20 at 0 0;dread 3+depth*9;grows trust*2+fear;falls trust/2-fear;");
        CHECKS.due("goes", x.go(0, 1), 1);
        CHECKS.due("20 * 2 + 12", x.boat(0, 1), 52);
        ShyBoats y = Checks.onLake("lake 3;row hsd;boat a trust 20 at 0 0;dread 22;grows trust*2+fear;falls trust+fear/2;");
        CHECKS.due("balks", y.go(0, 1), 0);
        CHECKS.due("20 + 11", y.boat(0, 1), 31);
        // without a SUM of dread the words are of the CELL that it tries, too
        String words = "depth*20+wreck*10+home+sky*2+skill";
        ShyBoats v = Checks.onLake("lake 3;row hsw;boat a trust 10 at 0 0;hand m skill 7;fog at 0;grows " + words + ";falls " + words + "+balks;");
        v.man(0, 0);
        CHECKS.due("goes", v.go(0, 1), 1);
        CHECKS.due("20 + 1 + 4 + 7", v.boat(0, 1), 32);
        CHECKS.due("goes", v.go(0, 2), 1);
        CHECKS.due("40 + 10 + 2 + 4 + 7", v.boat(0, 1), 63);
        ShyBoats u = Checks.onLake("lake 3;row hsw;boat a trust 9 at 0 0;hand m skill 7;fog at 0;falls 0-50+fear*5+" + words + "+balks;");
        CHECKS.due("balks", u.go(0, 1), 0);
        CHECKS.due("20 + 1 + 4", u.boat(0, 1), 25);
        ShyBoats z = Checks.onLake("lake 3;row hsd;boat a trust 20 at 0 0;dread 5000;falls fear;");
        z.go(0, 1);
        CHECKS.due("fear is 99 at most, as DREAD is", z.boat(0, 1), 99);
        ShyBoats w = Checks.onLake("lake 3;row hsd;boat a trust 20 at 0 0;dread 0-50;grows trust+fear;");
        w.go(0, 1);
        CHECKS.due("and 0 at least", w.boat(0, 1), 20);
    }

    private static void fromTheLeftOn() {
        CHECKS.holds("I", "All from the left on;");
        CHECKS.due("9-4-2", worth("9-4-2"), 3);
        CHECKS.due("9-4+2", worth("9-4+2"), 7);
        CHECKS.due("60/6/5", worth("60/6/5"), 2);
        CHECKS.due("7/2*2", worth("7/2*2"), 6);
        CHECKS.due("7*3/2", worth("7*3/2"), 10);
        CHECKS.due("a bound met on the way stays met", worth("9999*9999-9999*100-99+0"), 1);
    }

    private static void quotients() {
        CHECKS.holds("I", "/ gives the greatest whole number not above, by 0 it gives 0;");
        int[][] rows = {{7, 2, 3}, {-7, 2, -4}, {7, -2, -4}, {-7, -2, 3}, {6, 2, 3}, {-6, 2, -3}, {6, -2, -3}, {0, 5, 0}, {0, -5, 0},
            {1, 9999, 0}, {-1, 9999, -1}, {1, -9999, -1}, {-1, -9999, 0}, {5, 0, 0}, {-5, 0, 0}, {0, 0, 0}, {20, -1, -20}};
        for (int[] row : rows) {
            String sum = number(row[0]) + "/" + number(row[1]);
            CHECKS.due(sum, worth("50+" + sum), 50 + row[2]);
        }
        CHECKS.due("by what comes to 0", worth("8+9/(depth-1)"), 8);
        CHECKS.due("the least by -1", worth("(0-1000*1000)/(0-1)-9999*100-90"), 10);
    }

    private static String number(int n) {
        return n < 0 ? "(0-" + -n + ")" : Integer.toString(n);
    }

    private static void bounds() {
        CHECKS.holds("I", "each sum, difference, product above 10 to the 6 is that, below -10 to the 6 likewise.");
        String million = "1000*1000";
        String less = "(0-1000*1000)";
        String[][] rows = {{million, "1000000"}, {million + "-1", "999999"}, {million + "+1", "1000000"}, {million + "+1-1", "999999"},
            {"1001*1000", "1000000"}, {"1001*1000-1", "999999"}, {"999*1001", "999999"}, {"9999*9999*9999*9999", "1000000"},
            {"(" + million + ")*(" + million + ")", "1000000"}, {less, "-1000000"}, {less + "+1", "-999999"}, {less + "-1", "-1000000"},
            {less + "-1+1", "-999999"}, {"(0-1001)*1000+1", "-999999"}, {less + "*" + less, "1000000"}, {less + "*" + million, "-1000000"},
            {less + "*(" + million + ")", "-1000000"}, {"5-" + less, "1000000"}, {"5-" + less + "-1", "999999"},
            {less + "+" + less + "+1", "-999999"}, {"0-9999*9999+1", "-999999"}};
        ShyBoats x = Checks.onLake("lake 3;row hsd;boat a trust 7 at 0 0;");
        for (String[] row : rows) {
            int due = Integer.parseInt(row[1]);
            CHECKS.due(row[0], Checks.ask(x, 0, "most " + row[0]), due);
            // brought back to where DREAD can tell it
            String sum = row[0] + (due > 0 ? "-9999*100-50" : "+9999*100+150");
            CHECKS.due("dread " + sum, worth(sum), due > 0 ? due - 999950 : due + 1000050);
        }
    }
}
