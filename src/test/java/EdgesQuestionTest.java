import java.util.Arrays;

/** Promise 32 and term IV's QUESTIONS, sentence by sentence. */
public final class EdgesQuestionTest {
    private static final Checks CHECKS = new Checks();
    /** CELL 7 is land; BOATS a, b in CELL 0, c in CELL 4. */
    private static final String LAKE = "lake 4;row hsdw;row hsdl;row sssd;boat ann trust 15 at 0 0;boat bob trust 5 at 0 0;"
        + "boat cid trust 30 at 0 1;dread depth*10+wreck*15-ahead*50-bold;";

    public static void main(String[] args) {
        tests();
        sums();
        orAndNot();
        comparisons();
        parts();
        words();
        boatsOfNumbers();
        asInOne();
        unknownWords();
        standsBehind();
        openAtOnce();
        notUntilItsFact();
        boatsUntilItsPart();
        ofEachKindOpen();
        tapeIsAQuestion();
        holdsForNone();
        withAFault();
        noneSuch();
        ofLand();
        CHECKS.finish();
    }

    private static void due(String question, long answer) {
        ShyBoats x = Checks.onLake(LAKE);
        CHECKS.due(question, Checks.ask(x, 0, question), answer);
        CHECKS.due("fault of " + question, x.fault(0), 0);
        CHECKS.due("place of " + question, x.fault(1), -1);
    }

    private static void faulty(int fault, String... marked) {
        for (String text : marked) {
            CHECKS.faultyQuestion(Checks.onLake(LAKE), fault, text);
        }
    }

    private static void tests() {
        CHECKS.holds("IV", "A QUESTION of a BOAT is a text, of all CELLS: first TEST, last TEST (the first, the last CELL for which it holds), often TEST (for how many),");
        due("first all", 0);
        due("last all", 11);
        due("often all", 12);
        due("first number>4", 5);
        due("last number<4", 3);
        due("often depth=2", 4);
        due("first number=11", 11);
        due("last number=0", 0);
        due("often number=11", 1);
        due("often number<12", 12);
        ShyBoats x = Checks.onLake("lake 8;" + "row hhhhhhhh;".repeat(6) + "boat a trust 5 at 0 0;");
        CHECKS.due("of 48", Checks.ask(x, 0, "often all"), 48);
        CHECKS.due("the last of 48", Checks.ask(x, 0, "last all"), 47);
    }

    private static void sums() {
        CHECKS.holds("IV", "total SUM (of all together), most SUM, least SUM (the greatest, the least of all; 0 without CELLS).");
        due("total 1", 12);
        due("total number", 66);
        due("most number", 11);
        due("least number", 0);
        due("most 5-number", 5);
        due("least 5-number", -6);
        due("most 0-number-1", -1);
        due("least number+1", 1);
        due("total 0-number", -66);
        // each SUM has its bounds, but not all together
        due("total 9999*9999", 12000000);
        due("total 0-9999*9999", -12000000);
        due("most 9999*9999", 1000000);
        due("least 0-9999*9999", -1000000);
        ShyBoats x = Checks.onLake("lake 8;" + "row hhhhhhhh;".repeat(6) + "boat a trust 5 at 0 0;");
        CHECKS.due("of 48", Checks.ask(x, 0, "total 9999*9999"), 48000000);
        CHECKS.due("of 48", Checks.ask(x, 0, "total 0-9999*9999"), -48000000);
        // without CELLS there is no BOAT to be asked
        CHECKS.due("without cells", Checks.ask(Checks.onLake("lake 3;"), 0, "most 5"), ShyBoats.NOTHING);
    }

    private static void orAndNot() {
        CHECKS.holds("IV", "TEST: BOTH { or BOTH }. BOTH: FACT { and FACT }. FACT: not FACT; [ TEST ] ; all;");
        due("often number<3 or number>9", 5);
        due("often number<3 and number>0", 2);
        due("often number=1 or number=2 or number=3", 3);
        due("often number>1 and number>2 and number>3", 8);
        due("often number=1 or number=2 and number=3", 1);
        due("often number=2 and number=3 or number=1", 1);
        due("often [number=1 or number=2] and number=2", 1);
        due("often not all", 0);
        due("often not number<3", 9);
        due("often not number=1 and number<3", 2);
        due("often not [number=1 and number<3]", 11);
        due("often not not number=1", 1);
        due("often all and all or not all", 12);
        due("often not all or number=7", 1);
        faulty(1, "often |", "often |or all", "often |and all", "often all or |", "often all and |", "often all or |and all", "often not |", "often not |and all",
            "often [|]", "often [all|", "often [all|)", "often all|]", "often (|all)", "often all |not all", "often all |[all]");
    }

    private static void comparisons() {
        CHECKS.holds("IV", "SUM SIGN SUM, SIGN < or > or = .");
        due("often number<5", 5);
        due("often number>5", 6);
        due("often number=5", 1);
        due("often 5<number", 6);
        due("often number*2=number+number", 12);
        due("often 0-1<0", 12);
        due("often 0<0-1", 0);
        due("often number-5<0-4", 1);
        due("often 9999*9999=1000*1000", 12);
        faulty(1, "often number|", "often number |and all", "often number|!5", "often number<|", "often number<|=5", "often number=|=5", "often number<5|<6",
            "often |<5", "often number |5", "often (number|<5)", "often number|:5");
    }

    private static void parts() {
        CHECKS.holds("IV", "SUM as in I, but PART: N; number; across; down; depth; wreck; home; dread; trust; boats PART; ( SUM ) ; min ( SUM , SUM ) ; max ( SUM , SUM ) .");
        for (String part : new String[] {"0", "9999", "number", "across", "down", "depth", "wreck", "home", "dread", "trust", "boats 5", "boats number",
            "boats (5)", "boats min(5,6)", "boats boats 5", "(5)", "min(5,6)", "max(5,6)"}) {
            ShyBoats x = Checks.onLake(LAKE);
            CHECKS.due("total " + part, Checks.ask(x, 0, "total " + part) != ShyBoats.NOTHING, true);
            CHECKS.due("often " + part, Checks.ask(x, 0, "often " + part + "=" + part), 12);
        }
        for (String part : new String[] {"sky", "balks", "skill", "ahead", "bold", "fear", "all", "not 5", "[5]", "lake", "first", "grows", "ann"}) {
            faulty(1, "total |" + part, "often 5=|" + part, "total boats |" + part, "total min(5,|" + part + ")");
        }
        due("total 2+3*4-20/(3-3)", 168);
        due("most (0-7)/2", -4);
        due("least 7/(0-2)", -4);
        due("most min(number,3)+max(number,9)", 14);
        due("most boats 0*5", 10);
        due("most boats 0+1", 3);
    }

    private static void words() {
        CHECKS.holds("IV", "(The CELL's number, COLUMN, ROW; its DREAD of it, alone; how it trusts;");
        for (int cell = 0; cell < 12; cell++) {
            ShyBoats x = Checks.onLake(LAKE);
            String here = "*max(0,1-max(number-" + cell + "," + cell + "-number))";
            CHECKS.due("number of " + cell, Checks.ask(x, 0, "total number" + here), cell);
            CHECKS.due("across of " + cell, Checks.ask(x, 0, "total across" + here), cell % 4);
            CHECKS.due("down of " + cell, Checks.ask(x, 0, "total down" + here), cell / 4);
            CHECKS.due("depth of " + cell, Checks.ask(x, 0, "total depth" + here), Math.max(0, x.cell(cell, 0)));
            CHECKS.due("wreck of " + cell, Checks.ask(x, 0, "total wreck" + here), x.cell(cell, 1));
            CHECKS.due("home of " + cell, Checks.ask(x, 0, "total home" + here), x.cell(cell, 2));
            CHECKS.due("dread of " + cell, Checks.ask(x, 0, "total dread" + here), cell == 7 ? 99 : x.dread(0, cell, -1));
            CHECKS.due("trust", Checks.ask(x, 0, "total trust" + here), 15);
        }
        ShyBoats y = Checks.onLake(LAKE);
        CHECKS.due("trust of another", Checks.ask(y, 2, "most trust"), 30);
        CHECKS.due("trust of each cell", Checks.ask(y, 2, "total trust"), 360);
        y.coax(2, 2);
        CHECKS.due("as it trusts now", Checks.ask(y, 2, "most trust"), 40);
    }

    private static void boatsOfNumbers() {
        CHECKS.holds("IV", "how many BOATS are in the CELL of that number, 0 of numbers that there are not.)");
        due("most boats 0", 2);
        due("most boats 4", 1);
        due("most boats 1", 0);
        due("total boats number", 3);
        due("most boats 11", 0);
        for (String none : new String[] {"12", "47", "48", "9999", "(0-1)", "(0-9999)", "(9999*9999)", "(0-9999*9999)", "7"}) {
            due("most boats " + none, 0);
            due("least boats " + none, 0);
        }
        due("most boats boats 1", 2);
        due("most boats boats boats 0", 2);
        // numbers that another lake had
        ShyBoats x = Checks.onLake("lake 8;" + "row hhhhhhhh;".repeat(6) + "boat a trust 5 at 7 5;");
        CHECKS.due("in the last cell", Checks.ask(x, 0, "most boats 47"), 1);
        Checks.lake(x, "lake 3;row hhh;boat a trust 5 at 0 0;");
        CHECKS.due("it is there no more", Checks.ask(x, 0, "most boats 47"), 0);
        ShyBoats six = Checks.onLake("lake 3;row hhh;boat a trust 9 at 2 0;boat b trust 9 at 2 0;boat c trust 9 at 2 0;boat d trust 9 at 2 0;"
            + "boat e trust 9 at 2 0;boat f trust 9 at 2 0;");
        CHECKS.due("six", Checks.ask(six, 5, "most boats 2"), 6);
        six.go(3, 1);
        CHECKS.due("as they are now", Checks.ask(six, 5, "most boats 2*10+boats 1"), 51);
    }

    private static void asInOne() {
        CHECKS.holds("IV", "Its FAULTS: 1 as in I");
        faulty(1, "|", " |", "  \n|", "|5", "|;", "|all", "|Often all", "|\toften all", "often|", "often \n |", "total|", "total |;", "often|5<6", "total 5|x",
            "total 1234|5", "total 0000|5", "often 1234|5<6", "often 6<1234|5", "total min|", "total min |5", "total min(|", "total min(5|)", "total min(5,|)", "total min(5,5|",
            "total (|)", "total (5|", "total |-5", "total 5+|", "total 5*|*5", "total boats|", "total boats|5", "total boats |+", "often all|5",
            "often 5=5|or 5=5", "often 5=5 or|5=5", "often number|5", "total |?", "total |" + (char) 255);
    }

    private static void unknownWords() {
        CHECKS.holds("IV", "(an unknown word at its first byte;");
        for (String word : new String[] {"x", "firsts", "fir", "ofte", "oftenall", "abcdefghijk", "lake", "depth", "not", "ann"}) {
            faulty(1, "|" + word + " all");
        }
        for (String word : new String[] {"x", "numbers", "numbe", "al", "alll", "trusty", "abcdefghijk", "ann", "boat"}) {
            faulty(1, "often |" + word, "total |" + word, "often 5<|" + word, "total 5+|" + word, "often not |" + word, "often [|" + word, "total (|" + word,
                "total boats |" + word, "often all or |" + word, "often all and |" + word);
        }
        faulty(1, "often all |xor all", "often all |andd all", "total 5 |plus 5");
    }

    private static void standsBehind() {
        CHECKS.holds("IV", "what stands behind it, too);");
        for (String behind : new String[] {"all", "first", "often all", "123456", ";", "?", "]", ")", "abcdefghijk", "" + (char) 0}) {
            faulty(1, "often all |" + behind, "often 5=5 |" + behind, "often [all] \n|" + behind, "total 5 |" + behind, "total (5) |" + behind,
                "total boats 5 |" + behind);
        }
        faulty(1, "often all|;", "total 5|;", "total 5|<6", "total number |or");
        due("  often   all  \n ", 12);
        due("total 5\n", 60);
    }

    private static void openAtOnce() {
        CHECKS.holds("IV", "4 the 7th of ( [ not boats that is open at once");
        due("often not not not not not not all", 12);
        due("often [[[[[[all]]]]]]", 12);
        due("total ((((((5))))))", 60);
        due("total boats boats boats boats boats boats 5", 24);
        due("total min(min(min(min(min(min(1,2),3),4),5),6),7)", 12);
        faulty(4, "often not not not not not not |not all", "often [[[[[[|[all]]]]]]]", "total ((((((|(5)))))))", "total boats boats boats boats boats boats |boats 5",
            "total min(min(min(min(min(min(min|(1,2),3),4),5),6),7),8)", "often not not not not not not |not", "often [[[[[[|[", "total ((((((|(", "total (((((( \n|(");
        // as 1 where it can't stand at all
        faulty(1, "often [[[[[[all |[", "total ((((((5|(", "total ((((((|[", "total ((((((|not");
    }

    private static void notUntilItsFact() {
        CHECKS.holds("IV", "(not until its FACT,");
        due("often not not not not not not all and not not not not not not all", 12);
        due("often not not not not not not all or not not not not not not all", 12);
        due("often not not not not not not number<4 and [[[[[[all]]]]]]", 4);
        due("often not not not 5=(((5))) and (((((5)))))=5", 0);
        due("often [not all or not not not not not number=number]", 0);
        // a FACT is the whole SUM SIGN SUM: a not is open up to its end
        faulty(4, "often not 5<(((((|(5))))))", "often not (((((|(5))))))=5",
            "often not not not 5=(((|(5))))", "often not not not not not not 5=|(5)", "often not not not not not not |(5)=5",
            "often not not not not not not 5=5+|boats 5", "often not [[[[[|[all]]]]]]", "often not [[[[[all and |not all]]]]]");
    }

    private static void boatsUntilItsPart() {
        CHECKS.holds("IV", "boats until its PART ends), at it.");
        due("total boats boats boats boats boats boats 5+boats boats boats boats boats boats 5", 48);
        due("total boats boats boats boats boats boats 5*boats boats boats boats boats boats 5", 48);
        due("total boats 5+((((((5))))))", 60);
        due("total boats (((((5)))))", 0);
        due("often boats boats boats boats boats boats 5=((((((2))))))", 12);
        due("total boats min(boats (((5))),5)+min((((((1))))),2)", 36);
        faulty(4, "total boats (((((|(5))))))", "total boats boats boats boats boats boats |(5)",
            "total boats boats boats boats boats boats min|(5,6)", "total (((((boats |boats 5)))))",
            "total boats min(5,((((|(5)))))");
    }

    private static void ofEachKindOpen() {
        CHECKS.holds("IV", "4 the 7th of ( [ not boats that is open at once (not until its FACT, boats until its PART ends), at it.");
        due("often not [not [boats (number)=0]]", 10);
        due("often not [min(boats ((number)),5)<9]", 0);
        faulty(4, "often not [not [boats (|(5))=0]]", "often not [min(boats ((|(number))),5)<9]", "often [[[[[not |not all]]]]]", "often [[[[[[|boats 5=5]]]]]]",
            "often [[[[[[5=|boats 5]]]]]]", "often [[[[[[min|(5,6)=5]]]]]]", "often [[[[[[5=5 and |not all]]]]]]", "often not not not not not [|[all]]",
            "often not not not not not boats |boats 5=5", "often [[[[[[|(5)=5]]]]]]");
    }

    private static void tapeIsAQuestion() {
        CHECKS.holds("Promise 32", "The tape (it goes) is a QUESTION of a BOAT: its answer;");
        ShyBoats x = Checks.onLake(LAKE);
        String before = Checks.stateOf(x);
        CHECKS.due("of a", Checks.ask(x, 0, "first dread>trust"), 2);
        CHECKS.gone("ask", x);
        CHECKS.due("of b", Checks.ask(x, 1, "first dread>trust"), 1);
        CHECKS.due("of c", Checks.ask(x, 2, "first dread>trust"), 3);
        CHECKS.due("the next byte is the first", x.feed(0, 0, 0, 0, 0), 20);
        x.end(0);
        CHECKS.due("nothing changes", Checks.stateOf(x).equals(before), true);
        String longest = "total " + "1+".repeat(796) + "1 ";
        CHECKS.due("so long", longest.length(), 1600);
        CHECKS.due("of 1600 bytes", Checks.ask(x, 0, longest), 12 * 797);
        CHECKS.due("none refused", Arrays.equals(Checks.refusalsOf(x), new int[] {1, 0, 0, 0, 0, 0}), true);
    }

    private static void holdsForNone() {
        CHECKS.holds("Promise 32", "NONE of first, last, when its TEST holds for none;");
        due("first not all", -1);
        due("last not all", -1);
        due("first number>11", -1);
        due("last number<0", -1);
        due("often not all", 0);
        due("first number=0", 0);
        due("last number=0", 0);
    }

    private static void withAFault() {
        CHECKS.holds("Promise 32", "NOTHING with a FAULT,");
        ShyBoats x = Checks.onLake(LAKE);
        String before = Checks.stateOf(x);
        for (String text : new String[] {"", "often", "total 12345", "often not not not not not not not all", "total 5;"}) {
            CHECKS.due(text, Checks.ask(x, 0, text), ShyBoats.NOTHING);
            CHECKS.gone(text, x);
            CHECKS.due("a fault of " + text, x.fault(0) > 0, true);
            CHECKS.due("a place in " + text, x.fault(1) >= 0, true);
        }
        CHECKS.due("nothing changes", Checks.stateOf(x).equals(before), true);
        CHECKS.due("asking is never refused", x.status(1) + x.status(2) + x.status(3) + x.status(4) + x.status(5), 0);
    }

    private static void noneSuch() {
        CHECKS.holds("Promise 32", "or, doing nothing else, when there is none such.");
        for (int boat : new int[] {-1, 3, 5, 6, Integer.MIN_VALUE, Integer.MAX_VALUE}) {
            ShyBoats x = Checks.onLake(LAKE);
            Checks.ask(x, 0, "total 12345");
            int[] counts = Checks.refusalsOf(x);
            CHECKS.due("boat " + boat, Checks.ask(x, boat, "often all"), ShyBoats.NOTHING);
            CHECKS.due("the fault is the latest's yet, boat " + boat, x.fault(0), 1);
            CHECKS.due("its place, boat " + boat, x.fault(1), 10);
            CHECKS.due("none refused, boat " + boat, Arrays.equals(Checks.refusalsOf(x), counts), true);
            Checks.ask(x, 0, "often all");
            CHECKS.due("of a faulty text, boat " + boat, Checks.ask(x, boat, "often"), ShyBoats.NOTHING);
            CHECKS.due("no fault, boat " + boat, x.fault(0), 0);
            CHECKS.due("no place, boat " + boat, x.fault(1), -1);
        }
        ShyBoats y = new ShyBoats();
        CHECKS.due("no lake", Checks.ask(y, 0, "often"), ShyBoats.NOTHING);
        CHECKS.due("no fault", y.fault(0), 0);
    }

    private static void ofLand() {
        CHECKS.holds("Promise 32", "(Of land depth 0, DREAD 99.)");
        due("first dread=99", 7);
        due("often dread=99", 1);
        due("last depth=0", 7);
        due("first number=7 and depth=0 and wreck=0 and home=3 and dread=99", 7);
        // whatever the SUM of dread would be there
        for (String dread : new String[] {"", "dread 0;", "dread 98;", "dread depth;"}) {
            ShyBoats x = Checks.onLake("lake 3;row hls;boat a trust 5 at 0 0;" + dread);
            CHECKS.due("land by " + dread, Checks.ask(x, 0, "first dread=99"), 1);
            CHECKS.due("land alone by " + dread, Checks.ask(x, 0, "often dread=99"), 1);
        }
    }
}
