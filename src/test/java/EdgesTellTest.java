import java.util.Arrays;

/** Promises 6 to 13 and the beginning of term II, sentence by sentence: what is told of all there is. */
public final class EdgesTellTest {
    private static final Checks CHECKS = new Checks();
    private static final int LOW = Integer.MIN_VALUE;
    private static final int HIGH = Integer.MAX_VALUE;
    private static final String LAKE = "lake 4;row sdwl;row hsdl;row lllh;boat ann trust 15 at 0 1;boat zyxwvu trust 99 at 0 1;boat c trust 0 at 3 2;"
        + "hand m skill 3;hand sueyou skill 8;likes ann sueyou 4;likes zyxwvu m 9;rain at 2;storm at 99;";
    private static final String FLAT = "lake 3;row hhh;row hhh;boat a trust 9 at 0 0;boat b trust 9 at 0 0;";

    public static void main(String[] args) {
        numbering();
        atFirst();
        counts();
        coinsPaid();
        countsOfActs();
        hasOthers();
        letters();
        noLetters();
        boats();
        noBoats();
        cells();
        noCells();
        hands();
        noHands();
        likings();
        noLikings();
        skies();
        noSkies();
        keptTries();
        lastForty();
        noneKept();
        CHECKS.finish();
    }

    private static void numbering() {
        CHECKS.holds("II", "CELLS are numbered ROW by ROW, from 0 on (as many as the COLUMNS a ROW).");
        for (int columns = 3; columns <= 8; columns++) {
            StringBuilder text = new StringBuilder("lake " + columns + ";");
            for (int row = 0; row < 6; row++) {
                StringBuilder cells = new StringBuilder("s".repeat(columns));
                cells.setCharAt(row % columns, 'w');
                text.append("row ").append(cells).append(';');
            }
            ShyBoats x = Checks.onLake(text.toString());
            for (int cell = 0; cell < 6 * columns; cell++) {
                CHECKS.due("cell " + cell + " of " + columns, x.cell(cell, 1), cell % columns == cell / columns % columns ? 1 : 0);
            }
            CHECKS.due("no more", x.cell(6 * columns, 1), -1);
            CHECKS.due("none ahead", x.cell(-1, 1), -1);
        }
    }

    private static void atFirst() {
        CHECKS.holds("II", "It is HOUR 0 at first, no HAND is in a BOAT.");
        ShyBoats x = Checks.onLake(LAKE);
        CHECKS.due("hour", x.has(4), 0);
        for (int boat = 0; boat < 3; boat++) {
            CHECKS.due("hand of boat " + boat, x.boat(boat, 3), -1);
        }
        CHECKS.due("hand 0", x.hand(0, 1), -1);
        CHECKS.due("hand 1", x.hand(1, 1), -1);
        CHECKS.due("first weather", Checks.onLake("lake 3;fog at 0;").has(5), 2);
    }

    private static void counts() {
        CHECKS.holds("Promise 6", "How many there are: 0 COLUMNS, 1 ROWS, 2 BOATS, 3 HANDS, 4 HOUR, 5 the weather,");
        ShyBoats x = Checks.onLake(LAKE);
        int[] due = {4, 3, 3, 2, 0, 0, 0, 0, 114, 0, 0, 0};
        for (int what = 0; what < due.length; what++) {
            CHECKS.due("has " + what, x.has(what), due[what]);
        }
        x.hours(1);
        CHECKS.due("hour 1", 10 * x.has(4) + x.has(5), 10);
        x.hours(1);
        CHECKS.due("hour 2, rain", 10 * x.has(4) + x.has(5), 21);
        x.hours(97);
        CHECKS.due("hour 99, storm", 10 * x.has(4) + x.has(5), 993);
        ShyBoats full = Checks.onLake("lake 8;" + "row hhhhhhhh;".repeat(6) + "boat a trust 99 at 0 0;boat b trust 99 at 0 0;boat c trust 99 at 0 0;"
            + "boat d trust 99 at 0 0;boat e trust 99 at 0 0;boat f trust 99 at 0 0;hand g skill 1;hand h skill 1;hand i skill 1;hand j skill 1;"
            + "hand k skill 1;hand l skill 1;");
        int[] most = {8, 6, 6, 6, 0, 0, 0, 0, 594};
        for (int what = 0; what < most.length; what++) {
            CHECKS.due("the most, has " + what, full.has(what), most[what]);
        }
        ShyBoats empty = Checks.onLake("lake 3;");
        for (int what = 1; what < 12; what++) {
            CHECKS.due("an empty lake, has " + what, empty.has(what), 0);
        }
    }

    /** An image of a LAKE with two BOATS in CELL 0, in which so many coins are paid. */
    private static int[] rich(int coins) {
        return Checks.sealed(0, 0, coins / 65536, coins / 256 % 256, coins % 256, 0, 9, 0, 0, 0, 9, 0, 0);
    }

    private static void coinsPaid() {
        CHECKS.holds("Promise 6", "6 coins paid (999999 at most),");
        ShyBoats x = Checks.onLake(FLAT);
        x.coax(0, 99);
        x.coax(1, 1);
        CHECKS.due("of all together", x.has(6), 100);
        Checks.on(x, rich(999900));
        x.coax(0, 98);
        CHECKS.due("999998", x.has(6), 999998);
        x.coax(0, 1);
        CHECKS.due("just so many", x.has(6), 999999);
        CHECKS.due("a coin more works", x.coax(1, 1), 14);
        CHECKS.due("yet they stay", x.has(6), 999999);
        Checks.on(x, rich(999999));
        x.coax(0, 99);
        CHECKS.due("99 more", x.has(6), 999999);
        x.undo();
        CHECKS.due("undone", x.has(6), 999999);
        Checks.on(x, rich(999990));
        x.coax(0, 10);
        x.undo();
        CHECKS.due("undone to what it was", x.has(6), 999990);
        CHECKS.due("no image of more", Checks.on(x, rich(1000000)), false);
    }

    private static void countsOfActs() {
        CHECKS.holds("Promise 6", "7 balks of all, 8 trust of all together, 9 what is told as KEPT, 10 rows of TRIALS, 11 ACTS that can be undone.");
        ShyBoats x = Checks.onLake("lake 3;row hsd;boat a trust 5 at 0 0;boat b trust 3 at 0 0;boat c trust 20 at 0 0;");
        x.go(0, 1);
        x.go(1, 1);
        x.go(1, 1);
        x.go(2, 1);
        CHECKS.due("balks", x.has(7), 3);
        CHECKS.due("trust", x.has(8), 28);
        CHECKS.due("kept", x.has(9), 4);
        CHECKS.due("acts", x.has(11), 4);
        Checks.trials(x, 0, 1, 0, 2, 0, 0, 1);
        CHECKS.due("trials", x.has(10), 3);
        Checks.trials(x, 0, 1, 0);
        CHECKS.due("the latest trials alone", x.has(10), 1);
        CHECKS.due("telling is no act", x.has(11), 4);
        x.coax(1, 1);
        CHECKS.due("trust then", x.has(8), 33);
        CHECKS.due("no try", x.has(9), 4);
        x.undo();
        x.undo();
        CHECKS.due("undone", 100 * x.has(11) + 10 * x.has(9) + x.has(7), 333);
        ShyBoats y = Checks.onLake("lake 3;row hsd;boat a trust 5 at 0 0;boat b trust 3 at 0 0;");
        Checks.on(y, Checks.sealed(0, 0, 0, 0, 0, 0, 99, 99, 0, 0, 99, 99, 0));
        CHECKS.due("most balks of two", y.has(7), 198);
        CHECKS.due("most trust of two", y.has(8), 198);
    }

    private static void hasOthers() {
        CHECKS.holds("Promise 6", "NONE for others.");
        for (int what : new int[] {-1, 12, 13, -2, LOW, HIGH}) {
            CHECKS.due("has " + what, Checks.onLake(LAKE).has(what), -1);
            CHECKS.due("new has " + what, new ShyBoats().has(what), -1);
        }
    }

    private static void letters() {
        CHECKS.holds("Promise 7", "Letter k (0 .. 5) of the NAME of a BOAT (kind 0), a HAND (1): 1 .. 26; 0 behind it;");
        ShyBoats x = Checks.onLake(LAKE);
        String[][] names = {{"ann", "zyxwvu", "c"}, {"m", "sueyou"}};
        for (int kind = 0; kind < 2; kind++) {
            for (int which = 0; which < names[kind].length; which++) {
                String name = names[kind][which];
                for (int k = 0; k < 6; k++) {
                    CHECKS.due("letter " + k + " of " + name, x.letter(kind, which, k), k < name.length() ? name.charAt(k) - 'a' + 1 : 0);
                }
            }
        }
        ShyBoats y = Checks.onLake("lake 3;hand azazaz skill 1;hand zzzzzz skill 1;hand aaaaaa skill 1;");
        for (int k = 0; k < 6; k++) {
            CHECKS.due("azazaz " + k, y.letter(1, 0, k), k % 2 == 0 ? 1 : 26);
            CHECKS.due("zzzzzz " + k, y.letter(1, 1, k), 26);
            CHECKS.due("aaaaaa " + k, y.letter(1, 2, k), 1);
        }
    }

    private static void noLetters() {
        CHECKS.holds("Promise 7", "NONE when there is none such.");
        ShyBoats x = Checks.onLake(LAKE);
        int[][] none = {{0, 0, 6}, {0, 0, -1}, {0, 1, 6}, {1, 1, 6}, {1, 1, -1}, {0, 3, 0}, {0, -1, 0}, {1, 2, 0}, {1, -1, 0}, {2, 0, 0}, {-1, 0, 0},
            {0, 6, 0}, {1, 6, 0}, {0, 0, HIGH}, {0, 0, LOW}, {0, HIGH, 0}, {0, LOW, 0}, {1, HIGH, 0}, {1, LOW, 0}, {HIGH, 0, 0}, {LOW, 0, 0}};
        for (int[] row : none) {
            CHECKS.due("letter " + Arrays.toString(row), x.letter(row[0], row[1], row[2]), -1);
        }
        CHECKS.due("no lake", new ShyBoats().letter(0, 0, 0), -1);
        CHECKS.due("no lake", new ShyBoats().letter(1, 0, 0), -1);
    }

    private static void boats() {
        CHECKS.holds("Promise 8", "Of a BOAT: 0 its CELL, 1 trust, 2 how often it balked, 3 its HAND (NONE), 4 trust at first.");
        ShyBoats x = Checks.onLake(LAKE);
        int[][] due = {{4, 15, 0, -1, 15}, {4, 99, 0, -1, 99}, {11, 0, 0, -1, 0}};
        for (int boat = 0; boat < 3; boat++) {
            for (int what = 0; what < 5; what++) {
                CHECKS.due("boat " + boat + ", " + what, x.boat(boat, what), due[boat][what]);
            }
        }
        x.go(0, 5);
        x.go(0, 6);
        x.coax(0, 1);
        x.man(0, 1);
        int[] later = {5, 20, 1, 1, 15};
        for (int what = 0; what < 5; what++) {
            CHECKS.due("later boat 0, " + what, x.boat(0, what), later[what]);
        }
        Checks.on(x, Checks.sealed(0, 0, 0, 0, 0, 0, 99, 99, 2, 4, 0, 0, 1, 11, 1, 1, 0));
        int[][] most = {{0, 99, 99, 1, 15}, {4, 0, 0, 0, 99}, {11, 1, 1, -1, 0}};
        for (int boat = 0; boat < 3; boat++) {
            for (int what = 0; what < 5; what++) {
                CHECKS.due("by an image boat " + boat + ", " + what, x.boat(boat, what), most[boat][what]);
            }
        }
    }

    private static void noBoats() {
        CHECKS.holds("Promise 8", "NONE when there is none such, or for others.");
        ShyBoats x = Checks.onLake(LAKE);
        for (int what = 0; what < 5; what++) {
            for (int boat : new int[] {-1, 3, 5, 6, LOW, HIGH}) {
                CHECKS.due("boat " + boat + ", " + what, x.boat(boat, what), -1);
            }
            CHECKS.due("no lake, " + what, new ShyBoats().boat(0, what), -1);
        }
        for (int what : new int[] {-1, 5, LOW, HIGH}) {
            CHECKS.due("boat 1, " + what, x.boat(1, what), -1);
        }
    }

    private static void cells() {
        CHECKS.holds("Promise 9", "Of a CELL: 0 depth (NONE of land), 1 wreck, 2 home, 3 BOATS in it, as bits.");
        ShyBoats x = Checks.onLake(LAKE);
        int[][] due = {{1, 2, 2, -1, 0, 1, 2, -1, -1, -1, -1, 0}, {0, 0, 1, 0, 0, 0, 0, 0, 0, 0, 0, 0}, {1, 2, 3, 2, 0, 1, 2, 1, 1, 2, 1, 0},
            {0, 0, 0, 0, 3, 0, 0, 0, 0, 0, 0, 4}};
        for (int what = 0; what < 4; what++) {
            for (int cell = 0; cell < 12; cell++) {
                CHECKS.due("cell " + cell + ", " + what, x.cell(cell, what), due[what][cell]);
            }
        }
        x.go(1, 5);
        CHECKS.due("it left", x.cell(4, 3), 1);
        CHECKS.due("it came", x.cell(5, 3), 2);
        x.go(0, 5);
        CHECKS.due("two came", x.cell(5, 3), 3);
        CHECKS.due("none is there", x.cell(4, 3), 0);
        ShyBoats six = Checks.onLake("lake 3;row hhh;boat a trust 9 at 2 0;boat b trust 9 at 2 0;boat c trust 9 at 2 0;boat d trust 9 at 2 0;"
            + "boat e trust 9 at 2 0;boat f trust 9 at 2 0;");
        CHECKS.due("six in one", six.cell(2, 3), 63);
        six.go(5, 1);
        CHECKS.due("five in one", six.cell(2, 3), 31);
        CHECKS.due("the sixth", six.cell(1, 3), 32);
    }

    private static void noCells() {
        CHECKS.holds("Promise 9", "NONE when there is none such, or for others.");
        ShyBoats x = Checks.onLake(LAKE);
        for (int what = 0; what < 4; what++) {
            for (int cell : new int[] {-1, 12, 47, 48, LOW, HIGH}) {
                CHECKS.due("cell " + cell + ", " + what, x.cell(cell, what), -1);
            }
            CHECKS.due("no lake, " + what, new ShyBoats().cell(0, what), -1);
            CHECKS.due("no rows, " + what, Checks.onLake("lake 8;").cell(0, what), -1);
        }
        for (int what : new int[] {-1, 4, LOW, HIGH}) {
            CHECKS.due("cell 4, " + what, x.cell(4, what), -1);
        }
    }

    private static void hands() {
        CHECKS.holds("Promise 10", "Of a HAND: 0 skill, 1 the BOAT he is in (NONE).");
        ShyBoats x = Checks.onLake(LAKE);
        CHECKS.due("skill 0", x.hand(0, 0), 3);
        CHECKS.due("skill 1", x.hand(1, 0), 8);
        CHECKS.due("in none", x.hand(0, 1), -1);
        x.man(2, 0);
        x.man(0, 1);
        CHECKS.due("in boat 2", x.hand(0, 1), 2);
        CHECKS.due("in boat 0", x.hand(1, 1), 0);
        x.man(0, -1);
        CHECKS.due("in none", x.hand(1, 1), -1);
        CHECKS.due("in boat 2 yet", x.hand(0, 1), 2);
    }

    private static void noHands() {
        CHECKS.holds("Promise 10", "NONE when there is none such, or for others.");
        ShyBoats x = Checks.onLake(LAKE);
        x.man(0, 0);
        for (int hand : new int[] {-1, 2, 5, 6, LOW, HIGH}) {
            CHECKS.due("skill of " + hand, x.hand(hand, 0), -1);
            CHECKS.due("boat of " + hand, x.hand(hand, 1), -1);
        }
        for (int what : new int[] {-1, 2, LOW, HIGH}) {
            CHECKS.due("hand 0, " + what, x.hand(0, what), -1);
        }
        CHECKS.due("no lake", new ShyBoats().hand(0, 0), -1);
        CHECKS.due("no lake", new ShyBoats().hand(0, 1), -1);
    }

    private static void likings() {
        CHECKS.holds("Promise 11", "How a BOAT likes a HAND;");
        ShyBoats x = Checks.onLake(LAKE);
        int[][] due = {{0, 4}, {9, 0}, {0, 0}};
        for (int boat = 0; boat < 3; boat++) {
            for (int hand = 0; hand < 2; hand++) {
                CHECKS.due("likes " + boat + " " + hand, x.likes(boat, hand), due[boat][hand]);
            }
        }
        // each of 36 pairs has a place of its own
        StringBuilder text = new StringBuilder("lake 3;row hhh;");
        for (int i = 0; i < 6; i++) {
            text.append("boat ").append((char) ('a' + i)).append(" trust 1 at 0 0;hand ").append((char) ('m' + i)).append(" skill 1;");
        }
        for (int i = 0; i < 36; i++) {
            text.append("likes ").append((char) ('a' + i / 6)).append(' ').append((char) ('m' + i % 6)).append(' ').append(99 - i).append(';');
        }
        ShyBoats y = Checks.onLake(text.toString());
        for (int i = 0; i < 36; i++) {
            CHECKS.due("pair " + i, y.likes(i / 6, i % 6), 99 - i);
        }
    }

    private static void noLikings() {
        CHECKS.holds("Promise 11", "NONE when there are none such.");
        ShyBoats x = Checks.onLake(LAKE);
        int[][] none = {{-1, 0}, {3, 0}, {0, -1}, {0, 2}, {3, 2}, {-1, -1}, {5, 1}, {6, 1}, {2, 5}, {2, 6}, {LOW, 0}, {HIGH, 0}, {0, LOW}, {0, HIGH}};
        for (int[] row : none) {
            CHECKS.due("likes " + Arrays.toString(row), x.likes(row[0], row[1]), -1);
        }
        CHECKS.due("no lake", new ShyBoats().likes(0, 0), -1);
    }

    private static void skies() {
        CHECKS.holds("Promise 12", "The weather in an HOUR (0 .. 999);");
        ShyBoats x = Checks.onLake(LAKE);
        int[][] due = {{0, 0}, {1, 0}, {2, 1}, {98, 1}, {99, 3}, {100, 3}, {998, 3}, {999, 3}};
        for (int[] row : due) {
            CHECKS.due("sky " + row[0], x.sky(row[0]), row[1]);
        }
        x.hours(50);
        for (int[] row : due) {
            CHECKS.due("whatever hour it is, sky " + row[0], x.sky(row[0]), row[1]);
        }
        CHECKS.due("without a lake", new ShyBoats().sky(0), 0);
        CHECKS.due("without a lake", new ShyBoats().sky(999), 0);
    }

    private static void noSkies() {
        CHECKS.holds("Promise 12", "NONE for others.");
        for (int hour : new int[] {-1, 1000, LOW, HIGH}) {
            CHECKS.due("sky " + hour, Checks.onLake(LAKE).sky(hour), -1);
            CHECKS.due("sky " + hour + " without a lake", new ShyBoats().sky(hour), -1);
        }
    }

    private static void keptTries() {
        CHECKS.holds("Promise 13", "Of what is told as KEPT, the k-th from the oldest on: 0 HOUR, 1 BOAT, 2 CELL, 3 whether it went.");
        ShyBoats x = Checks.onLake("lake 3;row hsd;row hhh;boat a trust 15 at 0 0;boat b trust 5 at 2 1;");
        x.go(0, 1);
        x.hours(200);
        x.go(1, 2);
        x.hours(100);
        x.go(0, 2);
        x.go(1, 4);
        int[][] due = {{0, 0, 1, 1}, {200, 1, 2, 0}, {300, 0, 2, 0}, {300, 1, 4, 1}};
        for (int k = 0; k < 4; k++) {
            for (int what = 0; what < 4; what++) {
                CHECKS.due("kept " + k + ", " + what, x.kept(k, what), due[k][what]);
            }
        }
        // the greatest of all: HOUR 999, BOAT 5, CELL 47
        ShyBoats y = Checks.onLake("lake 8;" + "row hhhhhhhh;".repeat(6) + "boat a trust 9 at 0 0;boat b trust 9 at 0 0;boat c trust 9 at 0 0;"
            + "boat d trust 9 at 0 0;boat e trust 9 at 0 0;boat f trust 9 at 7 4;");
        int[] image = Checks.imageOf(y);
        image[0] = 3;
        image[1] = 231;
        Checks.on(y, Checks.sealed(Arrays.copyOf(image, 29)));
        y.go(5, 47);
        CHECKS.due("hour", y.kept(0, 0), 999);
        CHECKS.due("boat", y.kept(0, 1), 5);
        CHECKS.due("cell", y.kept(0, 2), 47);
        CHECKS.due("went", y.kept(0, 3), 1);
    }

    /** BOAT 0 goes to and fro, and n is told by whether BOAT 1 is the one that goes. */
    private static void lastForty() {
        CHECKS.holds("II", "KEPT is each TRY: HOUR, BOAT, CELL, 1 if it went, else 0; the last 40 are told.");
        for (int tries : new int[] {1, 39, 40, 41, 42, 79, 80, 81}) {
            ShyBoats x = Checks.onLake(FLAT);
            for (int n = 0; n < tries; n++) {
                int boat = n % 3 == 2 ? 1 : 0;
                x.go(boat, x.boat(boat, 0) == 0 ? 1 : 0);
            }
            int told = Math.min(40, tries);
            CHECKS.due(tries + " tries", x.has(9), told);
            for (int k = 0; k < told; k++) {
                CHECKS.due(tries + " tries, boat of " + k, x.kept(k, 1), (tries - told + k) % 3 == 2 ? 1 : 0);
            }
            CHECKS.due(tries + " tries, no more", x.kept(told, 1), -1);
            CHECKS.due(tries + " tries, none ahead", x.kept(-1, 1), -1);
            if (tries > 1) {
                x.undo();
                CHECKS.due("one less", x.has(9), Math.min(40, tries - 1));
                CHECKS.due("the oldest again", x.kept(0, 1), Math.max(0, tries - 41) % 3 == 2 ? 1 : 0);
            }
        }
        ShyBoats y = Checks.onLake(FLAT);
        y.drift(50);
        CHECKS.due("of a drift", y.has(9), 40);
        CHECKS.due("its latest", y.kept(39, 0), 49);
        ShyBoats z = Checks.onLake(FLAT + "hand m skill 1;");
        z.coax(0, 1);
        z.man(0, 0);
        z.hours(1);
        z.go(0, 5);
        CHECKS.due("coaxing, hands, hours and what is refused are none", z.has(9), 0);
    }

    private static void noneKept() {
        CHECKS.holds("Promise 13", "NONE when there is none such, or for others.");
        ShyBoats x = Checks.onLake(FLAT);
        CHECKS.due("nothing yet", x.kept(0, 0), -1);
        x.coax(0, 1);
        x.hours(1);
        CHECKS.due("no try yet", x.kept(0, 0), -1);
        x.go(0, 1);
        x.go(0, 0);
        for (int k : new int[] {-1, 2, 39, 40, 41, LOW, HIGH}) {
            for (int what = 0; what < 4; what++) {
                CHECKS.due("kept " + k + ", " + what, x.kept(k, what), -1);
            }
        }
        for (int what : new int[] {-1, 4, LOW, HIGH}) {
            CHECKS.due("kept 0, " + what, x.kept(0, what), -1);
        }
        CHECKS.due("no lake", new ShyBoats().kept(0, 0), -1);
    }
}
