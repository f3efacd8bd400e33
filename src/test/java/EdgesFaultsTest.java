/** Term I, NAMES, blanks and FAULTS, sentence by sentence (promises 4 and 5 by them). */
public final class EdgesFaultsTest {
    private static final Checks CHECKS = new Checks();
    private static final String ROWS = "lake 3;row hsd;row wlh;";
    private static final String NAMED = ROWS + "boat ann trust 5 at 0 0;hand mac skill 2;";
    private static final String[] OWN = ("lake row boat trust at hand skill likes calm rain fog storm dread grows falls coax depth wreck home"
        + " sky balks ahead bold fear number across down boats or and not all min max").split(" ");
    /** Each kind of STATEMENT once, without a blank that it does not need. */
    private static final String[] STATEMENTS = {"row hsd", "boat bob trust 7 at 0 0", "hand sue skill 1", "likes ann mac 5", "calm at 1",
        "rain at 1", "fog at 1", "storm at 1", "dread depth+1*(home/2-min(sky,max(7,bold)))", "grows min(trust,fear)", "falls(fear)", "coax 5"};

    public static void main(String[] args) {
        nameLengths();
        unlikeNames();
        namesToldAhead();
        ownWords();
        blanks();
        noOtherBlanks();
        sideBySide();
        firstAlongTheText();
        wordsWhole();
        namesAsked();
        cellsWhole();
        fifthDigit();
        endsTooSoon();
        noSuchText();
        impossibleNumbers();
        impossibleNames();
        seventhOpen();
        oneTooMany();
        statement61();
        CHECKS.finish();
    }

    private static void nameLengths() {
        CHECKS.holds("I", "NAMES: 1 to 6 letters, no OWN WORD, unlike ones (of all sorts), told ahead of where they are asked.");
        for (String name : new String[] {"a", "z", "ab", "abcdef", "zzzzzz", "aaaaaa"}) {
            ShyBoats x = Checks.onLake(ROWS + "boat " + name + " trust 5 at 0 0;hand y" + name.substring(1) + " skill 5;likes " + name + " y"
                + name.substring(1) + " 7;");
            CHECKS.due("likes by name " + name, x.likes(0, 0), 7);
            CHECKS.due("first letter", x.letter(0, 0, 0), name.charAt(0) - 'a' + 1);
            CHECKS.due("last letter", x.letter(0, 0, name.length() - 1), name.charAt(name.length() - 1) - 'a' + 1);
        }
        CHECKS.faultyLake(1, ROWS + "boat abcdef|g trust 5 at 0 0;");
        CHECKS.faultyLake(1, ROWS + "hand abcdef|g skill 5;");
        CHECKS.faultyLake(1, ROWS + "boat |5 trust 5 at 0 0;");
        CHECKS.faultyLake(1, ROWS + "hand |;");
    }

    private static void unlikeNames() {
        CHECKS.holds("I", "unlike ones (of all sorts)");
        CHECKS.faultyLake(3, NAMED + "boat |ann trust 5 at 0 0;");
        CHECKS.faultyLake(3, NAMED + "boat |mac trust 5 at 0 0;");
        CHECKS.faultyLake(3, NAMED + "hand |ann skill 5;");
        CHECKS.faultyLake(3, NAMED + "hand |mac skill 5;");
        CHECKS.goodLake(NAMED + "boat an trust 5 at 0 0;boat anna trust 5 at 0 0;boat nn trust 5 at 0 0;hand nna skill 1;hand ma skill 1;", 10);
        String seven = ROWS + "boat a trust 5 at 0 0;boat b trust 5 at 0 0;boat c trust 5 at 0 0;boat d trust 5 at 0 0;boat e trust 5 at 0 0;";
        CHECKS.faultyLake(3, seven + "boat |a trust");
        CHECKS.faultyLake(3, seven + "boat |e trust");
        CHECKS.faultyLake(3, seven + "boat f trust 5 at 0 0;hand |f skill");
    }

    private static void namesToldAhead() {
        CHECKS.holds("I", "told ahead of where they are asked.");
        CHECKS.faultyLake(3, ROWS + "hand m skill 1;likes |a m 5;boat a trust 5 at 0 0;");
        CHECKS.faultyLake(3, ROWS + "boat a trust 5 at 0 0;likes a |m 5;hand m skill 1;");
        CHECKS.goodLake(ROWS + "hand m skill 1;boat a trust 5 at 0 0;likes a m 5;", 6);
    }

    private static void ownWords() {
        CHECKS.holds("I", "OWN WORDS: lake, row, boat, trust, at, hand, skill, likes, calm, rain, fog, storm, dread, grows, falls, coax, depth,"
            + " wreck, home, sky, balks, ahead, bold, fear, number, across, down, boats, or, and, not, all, min, max.");
        CHECKS.due("so many", OWN.length, 34);
        for (String word : OWN) {
            CHECKS.faultyLake(1, ROWS + "boat |" + word + " trust 5 at 0 0;");
            CHECKS.faultyLake(1, ROWS + "hand |" + word + " skill 5;");
            CHECKS.faultyLake(1, NAMED + "likes |" + word + " mac 5;");
            CHECKS.faultyLake(1, NAMED + "likes ann |" + word + " 5;");
            String longer = word.length() < 6 ? word + "x" : "x" + word.substring(1);
            CHECKS.goodLake(ROWS + "boat " + longer + " trust 5 at 0 0;hand " + word.charAt(0) + " skill 1;", 5);
        }
        // words of QUESTIONS and letters of CELLS are none of these
        for (String word : new String[] {"first", "last", "often", "total", "most", "least", "hsd", "h", "lak", "mi"}) {
            CHECKS.goodLake(ROWS + "boat " + word + " trust 5 at 0 0;", 4);
            CHECKS.goodLake(ROWS + "hand " + word + " skill 5;", 4);
        }
    }

    private static String[] tokensOf(String text) {
        return text.trim().split("(?<=[^a-z0-9 ])|(?=[^a-z0-9 ])| ");
    }

    private static void blanks() {
        CHECKS.holds("I", "Blanks (10, 32) are where one likes");
        for (String blank : new String[] {" ", "\n", "  ", " \n\n "}) {
            CHECKS.goodLake(blank + "lake" + blank + "3" + blank + ";" + blank, 1);
            for (String statement : STATEMENTS) {
                StringBuilder text = new StringBuilder(NAMED);
                for (String token : tokensOf(statement + ";")) {
                    text.append(blank).append(token);
                }
                CHECKS.goodLake(text + blank, 6);
            }
        }
        CHECKS.faultyLake(1, "lake 3;row |h sd;");
        CHECKS.faultyLake(1, "|la ke 3;");
    }

    private static void noOtherBlanks() {
        CHECKS.holds("I", "Blanks (10, 32)");
        for (char sign = 0; sign < 256; sign++) {
            boolean blank = sign == 10 || sign == 32;
            if (blank) {
                CHECKS.goodLake("lake 3;" + sign, 1);
                CHECKS.goodLake("lake" + sign + "3;", 1);
            } else {
                // whatever it is, no such text goes on with it there
                CHECKS.faultyLake(1, "lake 3;|" + sign);
                CHECKS.faultyLake(1, "lake 3|" + (sign == ';' || sign >= '0' && sign <= '9' ? "x" : String.valueOf(sign)) + ";");
            }
        }
    }

    private static void sideBySide() {
        CHECKS.holds("I", "(words and numbers side by side need one).");
        String[] texts = {"lake|3;", "lake 3|row hsd;", "lake 3;row hsd|5;", ROWS + "boat ann|5 trust", ROWS + "boat ann trust|5 at 0 0;",
            ROWS + "boat ann trust 5|at 0 0;", ROWS + "boat ann trust 5 at|0 0;", ROWS + "hand mac skill|5;", NAMED + "likes ann mac|5;",
            ROWS + "rain at|5;", ROWS + "coax|5;", ROWS + "dread|5;", ROWS + "dread 5|depth;", ROWS + "dread depth|5;", ROWS + "dread 5+5|x;"};
        for (String text : texts) {
            CHECKS.faultyLake(1, text);
        }
        // without a blank two words are one, two numbers one
        CHECKS.faultyLake(1, "lake 3;|rowhsd;");
        CHECKS.faultyLake(3, NAMED + "likes |annmac 5;");
        CHECKS.faultyLake(2, ROWS + "boat ann trust 5 at |55 0;");
        CHECKS.faultyLake(1, ROWS + "boat ann trust 5 at 00|;");
        CHECKS.goodLake("lake 3;row hsd;dread(depth)*5/(5)+min(5,(5))-max(depth,5);", 3);
    }

    private static void firstAlongTheText() {
        CHECKS.holds("I", "FAULTS, the first along the text:");
        CHECKS.faultyLake(2, "lake |9;row h;lake");
        CHECKS.faultyLake(1, "lake 3;row |h;coax 0;boat boat");
        CHECKS.faultyLake(2, "lake 3;coax |0;row h;");
        CHECKS.faultyLake(3, NAMED + "likes |mac ann 100;");
        CHECKS.faultyLake(3, NAMED + "likes ann |ann 100;");
        CHECKS.faultyLake(2, NAMED + "likes ann mac |100x");
        CHECKS.faultyLake(2, ROWS + "boat a trust |100 at 9 9;");
        CHECKS.faultyLake(2, ROWS + "boat a trust 5 at |9 9;");
        CHECKS.faultyLake(3, NAMED + "boat |ann trust 100 at 9 9;");
        CHECKS.faultyLake(4, ROWS + "dread ((((((|(12345;dread 5;");
        CHECKS.faultyLake(1, ROWS + "dread (((((1234|56((((");
        CHECKS.faultyLake(5, ROWS + "dread 5;|dread (((((((");
        CHECKS.faultyLake(2, ROWS + "rain at |100;rain at 100;");
    }

    private static void wordsWhole() {
        CHECKS.holds("I", "1 the first byte with which no such text goes on (words and numbers whole, at their first byte;");
        for (String word : new String[] {"l", "lak", "lakes", "x", "row", "lakelake", "abcdefghij"}) {
            CHECKS.faultyLake(1, "|" + word + " 3;");
            CHECKS.faultyLake(1, " |" + word);
        }
        for (String word : new String[] {"r", "ro", "rows", "boats", "hans", "like", "likess", "raining", "trust", "at", "min", "first", "zzzzzzzzz"}) {
            CHECKS.faultyLake(1, "lake 3;|" + word + " 5;");
        }
        CHECKS.faultyLake(1, ROWS + "boat a |trus 5");
        CHECKS.faultyLake(1, ROWS + "boat a |trusts 5");
        CHECKS.faultyLake(1, ROWS + "boat a trust 5 |att 0 0;");
        CHECKS.faultyLake(1, ROWS + "boat a trust 5 |a");
        CHECKS.faultyLake(1, ROWS + "hand a |skills 5;");
        CHECKS.faultyLake(1, ROWS + "rain |a 5;");
        CHECKS.faultyLake(1, ROWS + "dread |dept;");
        CHECKS.faultyLake(1, ROWS + "dread |depthdepth;");
        // numbers where none is asked, however long
        CHECKS.faultyLake(1, "|123456");
        CHECKS.faultyLake(1, "lake 3;|12");
        CHECKS.faultyLake(1, "lake 3;|123456");
        CHECKS.faultyLake(1, "lake 3 |123456;");
        CHECKS.faultyLake(1, ROWS + "boat |123456");
        CHECKS.faultyLake(1, ROWS + "boat a |123456");
        CHECKS.faultyLake(1, ROWS + "row |123456");
        CHECKS.faultyLake(1, ROWS + "dread 5 |123456;");
    }

    private static void namesAsked() {
        CHECKS.holds("I", "where a NAME is asked, an OWN WORD so, a 7th letter at itself;");
        CHECKS.faultyLake(1, ROWS + "boat |at trust 5 at 0 0;");
        CHECKS.faultyLake(1, ROWS + "hand |number skill 5;");
        CHECKS.faultyLake(1, NAMED + "likes |or mac 5;");
        CHECKS.faultyLake(1, ROWS + "boat abcdef|g trust 5 at 0 0;");
        CHECKS.faultyLake(1, ROWS + "boat abcdef|ghijkl trust 5 at 0 0;");
        CHECKS.faultyLake(1, ROWS + "boat abcdef|g");
        CHECKS.faultyLake(1, ROWS + "hand number|s skill 5;");
        CHECKS.faultyLake(1, ROWS + "hand across|s skill 5;");
        CHECKS.faultyLake(1, NAMED + "likes annann|a mac 5;");
        CHECKS.faultyLake(1, NAMED + "likes ann macmac|m 5;");
    }

    private static void cellsWhole() {
        CHECKS.holds("I", "CELLS whole, at their first byte;");
        for (String cells : new String[] {"h", "hs", "hsdw", "hsx", "xsd", "hxd", "hsdhsdhsdhsd", "row", "min", "abc", "HSD", "h5d", "hs d"}) {
            CHECKS.faultyLake(1, "lake 3;row |" + cells + ";");
            CHECKS.faultyLake(1, "lake 3;row   |" + cells);
        }
        CHECKS.faultyLake(1, "lake 3;row hsd;row |hs;");
        CHECKS.faultyLake(1, "lake 3;row hsd |hsd;");
    }

    private static void fifthDigit() {
        CHECKS.holds("I", "where a number is asked, a 5th digit at itself;");
        String[] texts = {"lake 0000|3;", "lake 1234|5;", "lake 0003|3333;", ROWS + "boat a trust 0000|5 at 0 0;", ROWS + "boat a trust 5 at 0000|0 0;",
            ROWS + "boat a trust 5 at 0 0000|0;", ROWS + "hand a skill 0000|5;", NAMED + "likes ann mac 0000|5;", ROWS + "rain at 0000|5;",
            ROWS + "coax 0000|5;", ROWS + "dread 0000|5;", ROWS + "grows 5+(9999|9);", ROWS + "falls min(1000|0,5);"};
        for (String text : texts) {
            CHECKS.faultyLake(1, text);
        }
        CHECKS.goodLake("lake 0003;row hsd;boat a trust 0005 at 0000 0000;hand m skill 0009;likes a m 0099;fog at 0099;coax 0099;dread 0000;", 8);
    }

    /** Each text cut off behind each of its tokens, and behind a blank there. */
    private static void endsTooSoon() {
        CHECKS.holds("I", "at the text's length, if it ends too soon);");
        CHECKS.faultyLake(1, "lake|");
        CHECKS.faultyLake(1, "lake |");
        CHECKS.faultyLake(1, "lake 3|");
        CHECKS.faultyLake(1, "lake 3 \n |");
        for (String statement : STATEMENTS) {
            StringBuilder text = new StringBuilder(NAMED);
            String[] tokens = tokensOf(statement);
            for (int i = 0; i < tokens.length; i++) {
                text.append(i == 0 ? "" : " ").append(tokens[i]);
                CHECKS.faultyLake(1, text + "|");
                CHECKS.faultyLake(1, text + " \n|");
            }
            CHECKS.goodLake(text + ";", 6);
        }
    }

    /** Behind each token of each STATEMENT a sign that stands nowhere. */
    private static void noSuchText() {
        CHECKS.holds("I", "1 the first byte with which no such text goes on");
        for (String statement : STATEMENTS) {
            StringBuilder text = new StringBuilder(NAMED);
            for (String token : tokensOf(statement)) {
                CHECKS.faultyLake(1, text + "|?" + token);
                CHECKS.faultyLake(1, text + "|" + (char) 255);
                CHECKS.faultyLake(1, text + "|A");
                text.append(token).append(' ');
            }
            CHECKS.faultyLake(1, text + "|?;");
        }
        // a STATEMENT that ends too soon, though the text goes on
        for (String statement : STATEMENTS) {
            StringBuilder text = new StringBuilder(NAMED);
            String[] tokens = tokensOf(statement);
            boolean sum = "dread grows falls".contains(tokens[0]);
            for (int i = 0; i < (sum ? 1 : tokens.length - 1); i++) {
                text.append(tokens[i]).append(' ');
                CHECKS.faultyLake(1, text + "|;");
                CHECKS.faultyLake(1, text + "|;coax 5;");
            }
        }
        CHECKS.faultyLake(1, "lake |;");
        CHECKS.faultyLake(1, "lake |;row hsd;");
        CHECKS.faultyLake(1, "lake |-3;");
        CHECKS.faultyLake(1, "lake |+3;");
        CHECKS.faultyLake(1, "lake 3|.5;");
        CHECKS.faultyLake(1, ROWS + "boat a|A trust");
        CHECKS.faultyLake(1, ROWS + "boat a|_b trust");
    }

    private static void impossibleNumbers() {
        CHECKS.holds("I", "2 a number that can't be (of a CELL that is no harbour its ROW; an HOUR told already), at it;");
        String[] texts = {"lake |2;", "lake |9;", ROWS + "boat a trust |100 at 0 0;", ROWS + "boat a trust 5 at |3 0;", ROWS + "boat a trust 5 at 0 |2;",
            ROWS + "boat a trust 5 at 1 |0;", ROWS + "boat a trust 5 at 2 |0;", ROWS + "boat a trust 5 at 0 |1;", ROWS + "boat a trust 5 at 1 |1;",
            ROWS + "boat a trust 5 at   1   |0   ;", ROWS + "hand a skill |10;", NAMED + "likes ann mac |100;", ROWS + "storm at |100;",
            ROWS + "calm at 5;calm at |5;", ROWS + "calm at 5;rain at |0005;", ROWS + "coax |0;", ROWS + "coax |100;", "lake |2", "lake |0009",
            ROWS + "boat a trust 5 at 1 |0", ROWS + "boat a trust 5 at 1 |0x"};
        for (String text : texts) {
            CHECKS.faultyLake(2, text);
        }
    }

    private static void impossibleNames() {
        CHECKS.holds("I", "3 a NAME to be given that is there already, one that is none of what is asked, at it;");
        String[] texts = {NAMED + "boat |ann", NAMED + "boat |mac", NAMED + "hand |ann", NAMED + "hand   |mac", NAMED + "likes |mac", NAMED + "likes |x",
            NAMED + "likes |an mac 5;", NAMED + "likes |anna mac 5;", NAMED + "likes ann |ann", NAMED + "likes ann |x", NAMED + "likes ann |ma 5;",
            NAMED + "likes ann |macs 5;", "lake 3;likes |x", NAMED + "likes |first mac 5;"};
        for (String text : texts) {
            CHECKS.faultyLake(3, text);
        }
    }

    private static void seventhOpen() {
        CHECKS.holds("I", "4 the 7th ( that is open at once, at it;");
        for (String sum : new String[] {"dread ", "grows ", "falls "}) {
            CHECKS.goodLake("lake 3;" + sum + "((((((5))))));", 2);
            CHECKS.goodLake("lake 3;" + sum + "((((((5))))))+((((((5))))))*min(5,(((((6))))));", 2);
            CHECKS.goodLake("lake 3;" + sum + "min(max(min(max(min(max(1,2),3),4),5),6),7);", 2);
            CHECKS.faultyLake(4, "lake 3;" + sum + "((((((|(5)))))));");
            CHECKS.faultyLake(4, "lake 3;" + sum + "((((((|(");
            CHECKS.faultyLake(4, "lake 3;" + sum + "(((((( |(");
            CHECKS.faultyLake(4, "lake 3;" + sum + "((((((5)+(|(5)))))));");
            CHECKS.faultyLake(4, "lake 3;" + sum + "min(max(min(max(min(max(min|(1,2),3),4),5),6),7),8);");
            CHECKS.faultyLake(4, "lake 3;" + sum + "((((((5+min |(1,2)))))));");
            CHECKS.faultyLake(4, "lake 3;" + sum + "min(5,(((((|(5)))))));");
        }
    }

    private static String many(int count, String head, String tail) {
        StringBuilder all = new StringBuilder(ROWS);
        for (int i = 0; i < count; i++) {
            all.append(head).append((char) ('a' + i)).append(tail);
        }
        return all.toString();
    }

    private static void oneTooMany() {
        CHECKS.holds("I", "5 one too many of a kind (a second dread, grows, falls, too),");
        String rows = "lake 3;" + "row hhh;".repeat(6);
        String boats = many(6, "boat ", " trust 7 at 0 0;");
        String hands = many(6, "hand ", " skill 7;");
        StringBuilder skies = new StringBuilder(ROWS);
        for (int hour = 0; hour < 10; hour++) {
            skies.append("fog at ").append(hour).append(';');
        }
        // whatever stands behind its first word
        for (String behind : new String[] {"", ";", " ", " ?", " hhh;", " a", " boat", " 12345", " at 0;"}) {
            CHECKS.faultyLake(5, rows + " |row" + behind);
            CHECKS.faultyLake(5, boats + "|boat" + behind);
            CHECKS.faultyLake(5, hands + "\n|hand" + behind);
            CHECKS.faultyLake(5, ROWS + "dread 5;|dread" + behind);
            CHECKS.faultyLake(5, ROWS + "grows 5;|grows" + behind);
            CHECKS.faultyLake(5, ROWS + "falls 5;|falls" + behind);
            for (String kind : new String[] {"calm", "rain", "fog", "storm"}) {
                CHECKS.faultyLake(5, skies + "|" + kind + behind);
            }
        }
        CHECKS.faultyLake(1, boats + "|boats");
        CHECKS.faultyLake(1, rows + "|rowhhh;");
    }

    private static void statement61() {
        CHECKS.holds("I", "a 61st STATEMENT (whatever stands there), at its first byte.");
        String sixty = "lake 3;" + "coax 7;".repeat(59);
        for (String any : new String[] {"coax 7;", "lake 3;", "x", ";", "?", "12345", "(", "\t", "A", "row", "coax 0;", "row hsd;", "" + (char) 0}) {
            CHECKS.faultyLake(5, sixty + "|" + any);
            CHECKS.faultyLake(5, sixty + " \n |" + any);
        }
        CHECKS.faultyLake(1, "lake 3;" + "coax 7;".repeat(58) + "|x");
        CHECKS.faultyLake(2, "lake 3;" + "coax 7;".repeat(58) + "coax |0;coax 7;");
        CHECKS.goodLake(sixty + " \n ", 60);
    }
}
