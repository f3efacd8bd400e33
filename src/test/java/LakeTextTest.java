/** Promises 4 and 5: texts, and each kind of FAULT at its place. */
public final class LakeTextTest {
    private static final Checks CHECKS = new Checks();
    private static final String ROWS = "lake 3;row hsd;row wlh;";
    private static final String BOAT = ROWS + "boat ann trust 5 at 0 0;hand mac skill 2;";

    public static void main(String[] args) {
        goodTexts();
        faultyHeads();
        faultyStatements();
        faultyNames();
        faultyNumbers();
        faultySums();
        tooMany();
        whatStays();
        CHECKS.finish();
    }

    private static void good(String text, int statements) {
        CHECKS.goodLake(text, statements);
    }

    private static void faulty(int fault, String marked) {
        CHECKS.faultyLake(fault, marked);
    }

    private static void goodTexts() {
        good("lake 3;", 1);
        good("  \n lake\n8\n;\n", 1);
        good("lake 0003;row hsd;", 2);
        good("lake 8;row hsdwlhsd;row llllllll;", 3);
        good(BOAT, 5);
        good(BOAT + "likes ann mac 99;likes ann mac 0;coax 1;coax 99;calm at 0;rain at 99;fog at 1;storm at 50;", 13);
        good(BOAT + "boat first trust 0 at 2 1;boat most trust 99 at 0 0;hand often skill 0;hand least skill 9;", 9);
        good(BOAT + "dread((((((depth))))));grows trust+fear;falls min(max(trust,fear),9999);", 8);
        good(BOAT + "dread depth*wreck/home+sky-balks*skill+ahead-bold;", 6);
        good("lake 3;dread 0;", 2);
        good("lake 3;rain at 5;row hsd;", 3);
        good(ROWS + "boat abcdef trust 5 at 0 0;boat abcde trust 5 at 0 0;boat z trust 5 at 0 0;", 6);
    }

    private static void faultyHeads() {
        faulty(1, "|");
        faulty(1, "   |");
        faulty(1, "|;");
        faulty(1, "|row hsd;");
        faulty(1, "|lak 3;");
        faulty(1, "|lakes 3;");
        faulty(1, " \n|Lake 3;");
        faulty(1, "|\tlake 3;");
        faulty(1, "|7;");
        faulty(1, "lake|");
        faulty(1, "lake  |");
        faulty(1, "lake|3;");
        faulty(1, "lake |x;");
        faulty(1, "lake |;");
        faulty(1, "lake |-3;");
        faulty(2, "lake |2;");
        faulty(2, "lake |9;");
        faulty(2, "lake |0;");
        faulty(2, "lake |9999;");
        faulty(1, "lake 0000|3;");
        faulty(1, "lake 3|");
        faulty(1, "lake 3  |");
        faulty(1, "lake 3 |4;");
        faulty(1, "lake 3|x;");
        faulty(1, "lake 3;|lake 3;");
        faulty(1, "lake 3;|;");
        faulty(1, "lake 3;|99");
        faulty(1, "lake 3;|at 5");
        faulty(1, "lake 3;|min");
        faulty(1, "lake 3;|zebra");
        faulty(1, "lake 3;|ro");
    }

    private static void faultyStatements() {
        faulty(1, "lake 3;row|");
        faulty(1, "lake 3;row |;");
        faulty(1, "lake 3;row |345;");
        faulty(1, "lake 3;row |hs d;");
        faulty(1, "lake 3;row |hsdd;");
        faulty(1, "lake 3;row |hsH;");
        faulty(1, "lake 3;row |row;");
        faulty(1, "lake 3;row hsd|5;");
        faulty(1, "lake 3;row hsd |hsd;");
        faulty(1, "lake 3;row hsd;row |hs");
        faulty(1, "lake 3;|rowhsd;");
        String[] whole = {"row hsd", "boat bob trust 5 at 0 0", "hand sue skill 1", "likes ann mac 5", "calm at 1", "rain at 1", "fog at 1",
            "storm at 1", "dread depth + 1", "grows min ( trust , 1 )", "falls ( fear )", "coax 5"};
        for (String statement : whole) {
            String text = BOAT;
            for (String word : statement.split(" ")) {
                text += word + " ";
                boolean ended = text.endsWith(statement + " ") || text.endsWith("dread depth ");
                if (ended) {
                    good(text + ";", 6);
                } else {
                    faulty(1, text + "|;");
                }
                faulty(1, text + "|");
                faulty(1, text + "|@");
            }
        }
        faulty(1, ROWS + "boat a |5");
        faulty(1, ROWS + "boat a |at");
        faulty(1, ROWS + "boat a |trusty 5");
        faulty(1, ROWS + "boat a trust |at");
        faulty(1, ROWS + "boat a trust|5");
        faulty(1, ROWS + "boat a trust 5|at 0 0;");
        faulty(1, ROWS + "boat a trust 5 |trust");
        faulty(1, ROWS + "boat a trust 5 at |;");
        faulty(1, ROWS + "boat a trust 5 at 0|;");
        faulty(1, ROWS + "boat a trust 5 at 0|x");
        faulty(1, ROWS + "boat a trust 5 at 0|,0");
        faulty(1, ROWS + "boat a trust 5 at 0 0|");
        faulty(1, ROWS + "boat a trust 5 at 0 0 |0");
        faulty(1, ROWS + "hand a |trust");
        faulty(1, ROWS + "hand a skill |skill");
        faulty(1, ROWS + "rain |5");
        faulty(1, ROWS + "rain |rain");
        faulty(1, ROWS + "rain at |at");
        faulty(1, ROWS + "rain at 5|,");
        faulty(1, ROWS + "coax |;");
        faulty(1, ROWS + "coax 5 |x");
        faulty(1, BOAT + "likes ann mac|;");
        faulty(1, BOAT + "likes ann mac|9;");
        faulty(1, BOAT + "likes ann |9;");
    }

    private static void faultyNames() {
        String[] own = ("lake row boat trust at hand skill likes calm rain fog storm dread grows falls coax depth"
            + " wreck home sky balks ahead bold fear number across down boats or and not all min max").split(" ");
        CHECKS.due("own words", own.length, 34);
        for (String word : own) {
            faulty(1, ROWS + "boat |" + word + " trust 5 at 0 0;");
            faulty(1, ROWS + "hand |" + word + " skill 5;");
            faulty(1, BOAT + "likes |" + word + " mac 5;");
            faulty(1, BOAT + "likes ann |" + word + " 5;");
        }
        faulty(1, ROWS + "boat |");
        faulty(1, ROWS + "boat |7");
        faulty(1, ROWS + "boat |Ann trust");
        faulty(1, ROWS + "boat an|N trust");
        faulty(1, ROWS + "boat abcdef|g trust");
        faulty(1, ROWS + "boat abcdef|ghij trust");
        faulty(1, ROWS + "boat number|s trust");
        faulty(1, ROWS + "boat a|1 trust");
        faulty(1, BOAT + "likes annann|a mac 5;");
        faulty(3, BOAT + "boat |ann trust 5 at 0 0;");
        faulty(3, BOAT + "boat |mac trust 5 at 0 0;");
        faulty(3, BOAT + "hand |ann skill 5;");
        faulty(3, BOAT + "hand |mac skill 5;");
        faulty(3, BOAT + "hand |mac5 skill 5;");
        faulty(3, BOAT + "likes |mac mac 5;");
        faulty(3, BOAT + "likes |an mac 5;");
        faulty(3, BOAT + "likes |anna mac 5;");
        faulty(3, BOAT + "likes ann |ann 5;");
        faulty(3, BOAT + "likes ann |ma 5;");
        faulty(3, BOAT + "likes ann |bob");
        faulty(3, ROWS + "hand m skill 1;likes |a m 5;boat a trust 5 at 0 0;");
    }

    private static void faultyNumbers() {
        faulty(2, ROWS + "boat a trust |100 at");
        faulty(2, ROWS + "boat a trust |9999 at");
        faulty(1, ROWS + "boat a trust 1000|0 at");
        faulty(1, ROWS + "boat a trust 0000|5 at");
        faulty(2, ROWS + "boat a trust 5 at |3 0;");
        faulty(2, ROWS + "boat a trust 5 at |9999 0;");
        faulty(2, ROWS + "boat a trust 5 at 0 |2;");
        faulty(2, ROWS + "boat a trust 5 at 1 |0;");
        faulty(2, ROWS + "boat a trust 5 at 2 |0;");
        faulty(2, ROWS + "boat a trust 5 at 0 |1;");
        faulty(2, ROWS + "boat a trust 5 at 1 |1;");
        faulty(2, "lake 3;boat a trust 5 at 0 |0;row hsd;");
        faulty(2, ROWS + "hand a skill |10;");
        faulty(2, BOAT + "likes ann mac |100;");
        faulty(2, ROWS + "rain at |100;");
        faulty(2, ROWS + "rain at 5;fog at |5;");
        faulty(2, ROWS + "rain at 5;rain at |05;");
        faulty(2, ROWS + "coax |0;");
        faulty(2, ROWS + "coax |100;");
        faulty(1, ROWS + "coax 0001|0;");
    }

    private static void faultySums() {
        for (String sum : new String[] {"dread ", "grows ", "falls "}) {
            faulty(1, ROWS + sum + "|;");
            faulty(1, ROWS + sum + "|");
            faulty(1, ROWS + sum + "depth|");
            faulty(1, ROWS + sum + "depth |depth;");
            faulty(1, ROWS + sum + "depth+|;");
            faulty(1, ROWS + sum + "|-5;");
            faulty(1, ROWS + sum + "5*|*5;");
            faulty(1, ROWS + sum + "5|depth;");
            faulty(1, ROWS + sum + "depth|5;");
            faulty(1, ROWS + sum + "1234|5;");
            faulty(1, ROWS + sum + "|foo;");
            faulty(1, ROWS + sum + "|number;");
            faulty(1, ROWS + sum + "|boats 5;");
            faulty(1, ROWS + sum + "|dread;");
            faulty(1, ROWS + sum + "(depth|;");
            faulty(1, ROWS + sum + "(depth)|);");
            faulty(1, ROWS + sum + "(|);");
            faulty(1, ROWS + sum + "min |5;");
            faulty(1, ROWS + sum + "min(5|);");
            faulty(1, ROWS + sum + "min(5,|);");
            faulty(1, ROWS + sum + "min(5,6|,7);");
            faulty(1, ROWS + sum + "max(5,6|;");
            faulty(1, ROWS + sum + "5|<6;");
            faulty(1, ROWS + sum + "|[5];");
            faulty(4, ROWS + sum + "((((((|(depth)))))));");
            faulty(4, ROWS + sum + "((((((|(");
            faulty(4, ROWS + sum + "(((min(5,((max|(");
            faulty(4, ROWS + sum + "((((((5+1)))))+min(1,((((|(");
            faulty(1, ROWS + sum + "((((((5|(");
        }
        faulty(1, ROWS + "dread |trust;");
        faulty(1, ROWS + "dread |fear;");
        good(ROWS + "dread ((((((5))))))+((((((6))))))*min(min(1,2),min(3,min(4,5)));", 4);
        faulty(4, ROWS + "dread (((((min(min|(");
    }

    private static void tooMany() {
        String row = "row hsd;";
        String six = "lake 3;" + row.repeat(6);
        good(six, 7);
        faulty(5, six + "|row hsd;");
        faulty(5, six + "|row");
        StringBuilder boats = new StringBuilder(six);
        StringBuilder hands = new StringBuilder(six);
        for (char c = 'a'; c < 'g'; c++) {
            boats.append("boat ").append(c).append(" trust 1 at 0 0;");
            hands.append("hand ").append(c).append(" skill 1;");
        }
        good(boats.toString(), 13);
        good(hands.toString(), 13);
        faulty(5, boats + "|boat g trust 1 at 0 0;");
        faulty(5, boats + " |boat a");
        faulty(5, hands + "|hand g skill 1;");
        StringBuilder skies = new StringBuilder(six);
        for (int hour = 0; hour < 10; hour++) {
            skies.append(hour % 2 == 0 ? "calm at " : "fog at ").append(hour).append(';');
        }
        good(skies.toString(), 17);
        faulty(5, skies + "|storm at 50;");
        faulty(5, skies + "|calm at 0;");
        for (String sum : new String[] {"dread", "grows", "falls"}) {
            faulty(5, six + sum + " 5;|" + sum + " 5;");
            good(six + sum + " 5;", 8);
        }
        good(six + "dread 5;grows 5;falls 5;", 10);
        String sixty = "lake 3;" + "coax 7;".repeat(59);
        good(sixty, 60);
        good(sixty + "   \n", 60);
        faulty(5, sixty + "|coax 7;");
        faulty(5, sixty + " |;");
        faulty(5, sixty + " |\t");
        faulty(5, sixty + "|12345");
        faulty(5, sixty + "|lake");
        faulty(1, "lake 3;" + "coax 7;".repeat(58) + "|xyz");
    }

    private static void whatStays() {
        ShyBoats x = Checks.onLake(BOAT + "coax 7;");
        x.go(0, 1);
        x.coax(0, 2);
        Checks.trials(x, 0, 1, 1);
        x.hours(3);
        x.man(0, 0);
        x.seed(77);
        CHECKS.due("faulty", Checks.lake(x, "lake 5;row hhhhh;boat b"), -1);
        int[] due = {3, 2, 1, 1, 3, 0, 2, 1, 19, 1, 1, 4};
        for (int what = 0; what < due.length; what++) {
            CHECKS.due("all stays, has " + what, x.has(what), due[what]);
        }
        CHECKS.due("fault", x.fault(0), 1);
        Checks.ask(x, 0, "often all");
        CHECKS.due("ask clears the fault", x.fault(0), 0);
        CHECKS.due("and its place", x.fault(1), -1);
        CHECKS.due("good", Checks.lake(x, BOAT), 5);
        int[] after = {3, 2, 1, 1, 0, 0, 0, 0, 5, 0, 0, 0};
        for (int what = 0; what < after.length; what++) {
            CHECKS.due("as at first, has " + what, x.has(what), after[what]);
        }
        CHECKS.due("no hand", x.boat(0, 3), -1);
        CHECKS.due("no undo", x.undo(), false);
        CHECKS.due("no trials", x.trusts(0), -1);
        CHECKS.due("likes are new", x.likes(0, 0), 0);
        CHECKS.due("coax is new", x.coax(0, 1), 10);
        seedStays();
    }

    private static void seedStays() {
        String wide = "lake 3;row hhh;row hhh;row hhh;boat a trust 5 at 1 1;";
        for (int seed = 0; seed < 40; seed++) {
            ShyBoats x = Checks.onLake(wide);
            x.seed(seed);
            Checks.lake(x, wide);
            ShyBoats y = Checks.onLake(wide);
            y.seed(seed);
            x.drift(1);
            y.drift(1);
            CHECKS.due("seed " + seed + " stays", x.boat(0, 0), y.boat(0, 0));
        }
    }
}
