import java.util.Arrays;

/** Promises 18 to 23 with their terms, sentence by sentence: files, hands, trials. */
public final class EdgesCompanyTest {
    private static final Checks CHECKS = new Checks();
    private static final int LOW = Integer.MIN_VALUE;
    private static final int HIGH = Integer.MAX_VALUE;
    /** BOATS a and b in CELL 0, c in CELL 4; CELL 2 is land. */
    private static final String APART = "lake 3;row hsl;row shs;boat a trust 20 at 0 0;boat b trust 20 at 0 0;boat c trust 20 at 1 1;";
    private static final int[][] NONE_SUCH = {{0, 1}, {8, 1}, {9, 1}, {11, 1}, {64, 1}, {65, 1}, {-1, 1}, {-2, 1}, {5, 1}, {7, 1}, {6, 3}, {3, 0}, {3, 4},
        {3, 2}, {3, 5}, {3, -1}, {3, -3}, {3, 6}, {3, 48}, {4, 0}, {4, 4}, {4, 2}, {LOW, 1}, {HIGH, 1}, {LOW + 3, 1}, {3, LOW}, {3, HIGH}};
    /** DREAD 0, 10, 20, 25 of CELLS 0, 1, 2, 5; 3 like 1; 4 is land. */
    private static final String WATERS = "lake 3;row hsd;row slw;boat a trust 15 at 0 0;boat b trust 5 at 0 0;storm at 3;dread depth*10+wreck*5+sky*4+balks;";

    public static void main(String[] args) {
        mostGo();
        likeRows();
        learningOnTheWay();
        orderTold();
        noOrder();
        whomFirst();
        leadTold();
        noLead();
        rather();
        firmPairs();
        matchTold();
        noMatch();
        trialsTold();
        trialsRefused();
        howItCanTrust();
        trustsTold();
        noTrusts();
        nextCell();
        nextTold();
        noNext();
        CHECKS.finish();
    }

    private static void row(String what, ShyBoats x, int boats, int cell, int gone, int... due) {
        CHECKS.due(what + ", gone", x.order(boats, cell, -1), gone);
        for (int k = 0; k < due.length; k++) {
            CHECKS.due(what + ", place " + k, x.order(boats, cell, k), due[k]);
        }
        CHECKS.due(what + ", behind the last", x.order(boats, cell, due.length), -1);
    }

    private static void mostGo() {
        CHECKS.holds("III", "IN ORDER: of some BOATS of one CELL, for a CELL beside it: the row of these by which in a FILE the most of them go;");
        // c goes alone, b behind c, a behind none of them
        ShyBoats x = Checks.onLake("lake 3;row hds;boat a trust 10 at 0 0;boat b trust 12 at 0 0;boat c trust 20 at 0 0;dread depth*10-bold/2;");
        row("a stays, c goes, then b", x, 7, 1, 2, 0, 2, 1);
        row("c, b", x, 6, 1, 2, 2, 1);
        row("none of these", x, 3, 1, 0, 0, 1);
        row("one that goes", x, 4, 1, 1, 2);
        row("one that does not", x, 1, 1, 0, 0);
        StringBuilder text = new StringBuilder("lake 3;row hds;dread 60-ahead*(80-(bold-1)/10*10);");
        for (int boat = 0; boat < 6; boat++) {
            text.append("boat ").append((char) ('a' + boat)).append(" trust ").append(boat == 3 ? 60 : 40 - boat).append(" at 0 0;");
        }
        ShyBoats y = Checks.onLake(text.toString());
        CHECKS.due("six, as many as can", y.order(63, 1, -1), bestBySending(text.toString(), 63));
    }

    /** The most that go of all rows, each sent as a FILE. */
    private static int bestBySending(String text, int boats) {
        int[] all = new int[Integer.bitCount(boats)];
        int n = 0;
        for (int boat = 0; boat < 6; boat++) {
            if ((boats >> boat & 1) == 1) {
                all[n++] = boat;
            }
        }
        return bestBehind(text, all, 0);
    }

    private static int bestBehind(String text, int[] row, int from) {
        if (from == row.length) {
            return Checks.file(Checks.onLake(text), 1, row);
        }
        int best = 0;
        for (int i = from; i < row.length; i++) {
            int[] other = row.clone();
            other[from] = row[i];
            other[i] = row[from];
            best = Math.max(best, bestBehind(text, other, from + 1));
        }
        return best;
    }

    private static void likeRows() {
        CHECKS.holds("III", "of like ones the first by BOATS");
        ShyBoats x = Checks.onLake("lake 3;row hsd;boat a trust 10 at 0 0;boat b trust 10 at 0 0;boat c trust 10 at 0 0;boat d trust 0 at 0 0;");
        row("all go in any row", x, 7, 1, 3, 0, 1, 2);
        row("d stays in any row", x, 15, 1, 3, 0, 1, 2, 3);
        row("of two", x, 6, 1, 2, 1, 2);
        // b must go ahead of a; c, that stays, comes as soon as it can
        ShyBoats y = Checks.onLake("lake 3;row hds;boat a trust 10 at 0 0;boat b trust 20 at 0 0;boat c trust 0 at 0 0;dread 20-ahead*10;");
        row("b, a, c", y, 7, 1, 2, 1, 0, 2);
        row("b, c", y, 6, 1, 1, 1, 2);
        row("none goes", y, 5, 1, 0, 0, 2);
    }

    private static void learningOnTheWay() {
        CHECKS.holds("III", "(nothing changes; trust as each is learns on the way: grows, falls count).");
        // b grows by going: a dares behind b as it trusts then, not as it did
        ShyBoats x = Checks.onLake("lake 3;row hds;boat a trust 10 at 0 0;boat b trust 20 at 0 0;dread depth*10-bold/4;grows trust+fear;");
        String before = Checks.stateOf(x);
        row("behind one that has grown", x, 3, 1, 2, 1, 0);
        ShyBoats y = Checks.onLake("lake 3;row hds;boat a trust 10 at 0 0;boat b trust 40 at 0 0;dread depth*10-bold/4;grows 0;");
        row("behind one that has fallen", y, 3, 1, 1, 0, 1);
        CHECKS.due("nothing changes", Checks.stateOf(x).equals(before), true);
        ShyBoats z = Checks.onLake("lake 3;row hds;boat a trust 10 at 0 0;boat b trust 20 at 0 0;boat c trust 10 at 0 0;dread depth*10-bold/2;grows trust+fear;");
        row("c is behind a, who has not grown so much", z, 7, 1, 2, 0, 1, 2);
        ShyBoats w = Checks.onLake("lake 3;row hds;boat a trust 10 at 0 0;boat b trust 20 at 0 0;dread 20-ahead*10;falls 99;");
        row("one that balked and trusts more then goes no more", w, 3, 1, 2, 1, 0);
    }

    private static void orderTold() {
        CHECKS.holds("Promise 18", "IN ORDER, of some BOATS (bits), for a CELL: how many go (k NONE), the k-th in the row.");
        ShyBoats x = Checks.onLake(APART);
        row("a, b up", x, 3, 1, 2, 0, 1);
        row("a", x, 1, 3, 1, 0);
        row("b", x, 2, 3, 1, 1);
        row("c to the left", x, 4, 3, 1, 2);
        row("c to the right", x, 4, 5, 1, 2);
        row("c up", x, 4, 1, 1, 2);
        StringBuilder text = new StringBuilder("lake 3;row hsd;");
        for (int boat = 0; boat < 6; boat++) {
            text.append("boat ").append((char) ('a' + boat)).append(" trust 10 at 0 0;");
        }
        ShyBoats y = Checks.onLake(text.toString());
        row("six", y, 63, 1, 6, 0, 1, 2, 3, 4, 5);
        row("the sixth", y, 32, 1, 1, 5);
    }

    private static void noOrder() {
        CHECKS.holds("Promise 18", "NONE when they are none, not of one CELL, it is not beside it, or for others.");
        ShyBoats x = Checks.onLake(APART);
        for (int[] row : NONE_SUCH) {
            CHECKS.due("order " + Arrays.toString(row), x.order(row[0], row[1], -1), -1);
            CHECKS.due("place 0 of order " + Arrays.toString(row), x.order(row[0], row[1], 0), -1);
        }
        for (int k : new int[] {-2, 2, 3, 5, 6, LOW, HIGH}) {
            CHECKS.due("place " + k, x.order(3, 1, k), -1);
        }
        CHECKS.due("no lake", new ShyBoats().order(1, 0, -1), -1);
        CHECKS.due("no boats", Checks.onLake("lake 3;row hhh;").order(1, 1, -1), -1);
    }

    private static void whomFirst() {
        CHECKS.holds("III", "WHOM FIRST: the BOAT that goes alone and behind which (as it trusts then) the most others of these would go,"
            + " each asked by itself (itself counts, too); of like ones the first.");
        ShyBoats x = Checks.onLake("lake 3;row hds;boat a trust 20 at 0 0;boat b trust 30 at 0 0;boat c trust 5 at 0 0;dread depth*10-bold/3;grows trust+fear;");
        lead("b, as it trusts then", x, 7, 1, 3);
        lead("a alone counts itself", x, 5, 0, 1);
        lead("of like ones the first", x, 3, 0, 2);
        lead("of one", x, 2, 1, 1);
        // c does not go alone, though behind it others would
        ShyBoats y = Checks.onLake("lake 3;row hds;boat a trust 20 at 0 0;boat b trust 10 at 0 0;boat c trust 19 at 0 0;dread 20-bold/19*10+balks*99;");
        lead("a goes alone", y, 7, 0, 3);
        lead("none goes alone", y, 6, -1, -1);
        // each is asked by itself behind the leader, not behind the others
        ShyBoats z = Checks.onLake("lake 3;row hds;boat a trust 40 at 0 0;boat b trust 20 at 0 0;boat c trust 20 at 0 0;dread 30-ahead*bold/4;grows trust/2+20;");
        lead("both behind a", z, 7, 0, 3);
        ShyBoats w = Checks.onLake("lake 3;row hds;boat a trust 30 at 0 0;boat b trust 30 at 0 0;boat c trust 10 at 0 0;boat d trust 10 at 0 0;dread 30-ahead*20;grows 0;");
        lead("ahead is 1 behind one that trusts 0", w, 15, 0, 4);
        lead("b, where a is none of these", w, 14, 1, 3);
    }

    private static void lead(String what, ShyBoats x, int boats, int leader, int many) {
        CHECKS.due(what + ", who", x.lead(boats, 1, 0), leader);
        CHECKS.due(what + ", many", x.lead(boats, 1, 1), many);
    }

    private static void leadTold() {
        CHECKS.holds("Promise 19", "WHOM FIRST, of some BOATS, for a CELL: the BOAT (what 0), how many go (1).");
        ShyBoats x = Checks.onLake(APART);
        String before = Checks.stateOf(x);
        lead("a, b", x, 3, 0, 2);
        lead("b", x, 2, 1, 1);
        lead("c", x, 4, 2, 1);
        CHECKS.due("nothing changes", Checks.stateOf(x).equals(before), true);
    }

    private static void noLead() {
        CHECKS.holds("Promise 19", "NONE likewise, or when none goes.");
        ShyBoats x = Checks.onLake(APART);
        for (int[] row : NONE_SUCH) {
            CHECKS.due("lead " + Arrays.toString(row), x.lead(row[0], row[1], 0), -1);
            CHECKS.due("led " + Arrays.toString(row), x.lead(row[0], row[1], 1), -1);
        }
        for (int what : new int[] {-1, 2, LOW, HIGH}) {
            CHECKS.due("what " + what, x.lead(3, 1, what), -1);
        }
        CHECKS.due("no lake", new ShyBoats().lead(1, 0, 0), -1);
        ShyBoats y = Checks.onLake("lake 3;row hsd;boat a trust 9 at 0 0;boat b trust 9 at 0 0;");
        CHECKS.due("none goes", y.lead(3, 1, 0), -1);
        CHECKS.due("none goes, many", y.lead(3, 1, 1), -1);
    }

    private static void matched(String what, String text, int... due) {
        ShyBoats x = Checks.onLake("lake 3;row hhh;" + text);
        for (int boat = 0; boat < due.length; boat++) {
            CHECKS.due(what + ", boat " + boat, x.match(boat), due[boat]);
        }
    }

    private static void rather() {
        CHECKS.holds("III", "MATCHED are BOATS and HANDS, one each: a BOAT would rather have whom it likes more (of like ones the first HAND),"
            + " a HAND rather who trusts more (of like ones the first BOAT);");
        String two = "boat a trust 10 at 0 0;boat b trust 20 at 0 0;hand m skill 9;hand n skill 0;";
        matched("whom it likes more", two + "likes a n 5;likes a m 4;likes b m 5;", 1, 0);
        matched("who trusts more has him", two + "likes a m 9;likes b m 1;", 1, 0);
        matched("of like ones the first hand, for who trusts more", two, 1, 0);
        String like = "boat a trust 10 at 0 0;boat b trust 10 at 0 0;hand m skill 0;hand n skill 9;";
        matched("of like ones the first boat has the first hand", like, 0, 1);
        matched("of like ones the first boat has whom both like", like + "likes a n 1;likes b n 99;", 1, 0);
        matched("one hand", "boat a trust 10 at 0 0;boat b trust 11 at 0 0;boat c trust 11 at 0 0;hand m skill 0;", -1, 0, -1);
        matched("one hand, and the last trusts most", "boat a trust 10 at 0 0;boat b trust 11 at 0 0;boat c trust 12 at 0 0;hand m skill 0;", -1, -1, 0);
        // c has n; then a, and none but a, comes to m behind b
        String three = "boat a trust 10 at 0 0;boat b trust 10 at 0 0;boat c trust 30 at 0 0;hand m skill 0;hand n skill 0;hand o skill 0;"
            + "likes a n 9;likes a m 5;likes b m 9;likes c n 9;";
        matched("of like ones the first boat, though it comes last", three, 0, 2, 1);
        matched("who trusts less, though it comes last", three.replace("boat a trust 10", "boat a trust 9"), 2, 0, 1);
        matched("who trusts more, though it comes last", three.replace("boat a trust 10", "boat a trust 11"), 0, 2, 1);
        matched("one boat", "boat a trust 0 at 0 0;hand m skill 0;hand n skill 0;hand o skill 0;likes a n 1;likes a o 1;", 1);
    }

    private static void firmPairs() {
        CHECKS.holds("III", "so that no two would both rather have each other (who has none would rather have anyone), BOATS as well off as can be.");
        matched("who is liked by none has one, too", "boat a trust 0 at 0 0;hand m skill 0;likes a m 0;", 0);
        matched("and comes to who has none", "boat a trust 0 at 0 0;boat b trust 99 at 0 0;hand m skill 0;hand n skill 0;likes a m 9;likes b m 9;", 1, 0);
        // HANDS agree on whom they would rather have, so that each BOAT in the row of trust has the best that is left
        matched("in the row of trust", "boat a trust 1 at 0 0;boat b trust 2 at 0 0;boat c trust 3 at 0 0;hand m skill 0;hand n skill 0;hand o skill 0;"
            + "likes a m 9;likes a n 8;likes b m 9;likes b n 8;likes c m 9;likes c n 8;", 2, 1, 0);
        StringBuilder six = new StringBuilder();
        for (int i = 0; i < 6; i++) {
            six.append("boat ").append((char) ('a' + i)).append(" trust ").append(10 + i).append(" at 0 0;hand ").append((char) ('m' + i)).append(" skill 1;");
        }
        matched("six and six", six.toString(), 5, 4, 3, 2, 1, 0);
        matched("six and six, all like the last", six + "likes a r 1;likes b r 1;likes c r 1;likes d r 1;likes e r 1;likes f r 1;", 4, 3, 2, 1, 0, 5);
        ShyBoats x = Checks.onLake("lake 3;row hhh;boat a trust 10 at 0 0;boat b trust 20 at 0 0;hand m skill 0;");
        CHECKS.due("by how they trust now", x.match(1), 0);
        x.coax(0, 3);
        CHECKS.due("a trusts more", x.match(0), 0);
        CHECKS.due("b has none", x.match(1), -1);
        x.man(1, 0);
        CHECKS.due("whoever is in a boat", x.match(0), 0);
    }

    private static void matchTold() {
        CHECKS.holds("Promise 20", "MATCHED: the HAND of a BOAT (NONE: none).");
        ShyBoats x = Checks.onLake("lake 3;row hhh;boat a trust 10 at 0 0;boat b trust 20 at 0 0;hand m skill 0;");
        String before = Checks.stateOf(x);
        CHECKS.due("b has m", x.match(1), 0);
        CHECKS.due("a has none", x.match(0), -1);
        CHECKS.due("nothing changes", Checks.stateOf(x).equals(before), true);
        CHECKS.due("no hands", Checks.onLake("lake 3;row hhh;boat a trust 10 at 0 0;").match(0), -1);
    }

    private static void noMatch() {
        CHECKS.holds("Promise 20", "NONE when there is none such.");
        ShyBoats x = Checks.onLake("lake 3;row hhh;boat a trust 10 at 0 0;hand m skill 0;hand n skill 0;");
        for (int boat : new int[] {-1, 1, 5, 6, LOW, HIGH}) {
            CHECKS.due("match " + boat, x.match(boat), -1);
        }
        CHECKS.due("no lake", new ShyBoats().match(0), -1);
        CHECKS.due("no boats", Checks.onLake("lake 3;hand m skill 0;").match(0), -1);
    }

    /** So many rows of CELL 1, to which it went. */
    private static int[] rows(int count) {
        int[] bytes = new int[2 * count];
        Arrays.fill(bytes, 1);
        return bytes;
    }

    private static void trialsTold() {
        CHECKS.holds("Promise 21", "The tape (it goes) tells TRIALS of a BOAT, 1 to 20 rows of two bytes (no land): how many rows;");
        for (int count : new int[] {1, 2, 19, 20}) {
            ShyBoats x = Checks.onLake(WATERS);
            CHECKS.due(count + " rows", Checks.trials(x, 1, rows(count)), count);
            CHECKS.gone(count + " rows", x);
            CHECKS.due("told", x.has(10), count);
            CHECKS.due("least", x.trusts(1), 10);
        }
        ShyBoats y = Checks.onLake(WATERS);
        CHECKS.due("the last cell", Checks.trials(y, 0, 5, 0), 1);
        CHECKS.due("greatest", y.trusts(2), 24);
        CHECKS.due("other ones take their place", Checks.trials(y, 0, 1, 1), 1);
        CHECKS.due("greatest", y.trusts(2), 99);
        int[] last = rows(20);
        last[38] = 2;
        last[39] = 0;
        CHECKS.due("the twentieth counts", Checks.trials(y, 0, last), 20);
        CHECKS.due("greatest", y.trusts(2), 19);
    }

    private static void trialsRefused() {
        CHECKS.holds("Promise 21", "NONE, refused (1), all staying, when it is none such.");
        int[][] wrong = {{}, {1}, {1, 1, 1}, rows(21), {1, 2}, {1, 255}, {4, 1}, {4, 0}, {6, 1}, {47, 1}, {48, 0}, {255, 0}, {1, 1, 4, 0}, {1, 1, 2, 2},
            {1, 1, 6, 0}, Arrays.copyOf(rows(21), 41)};
        for (int[] bytes : wrong) {
            ShyBoats x = Checks.onLake(WATERS);
            Checks.trials(x, 0, 1, 1, 2, 0);
            CHECKS.refused("trials " + Arrays.toString(bytes), x, 1, () -> Checks.trials(x, 0, bytes));
            CHECKS.gone("trials " + Arrays.toString(bytes), x);
        }
        for (int boat : new int[] {-1, 2, 5, 6, LOW, HIGH}) {
            ShyBoats x = Checks.onLake(WATERS);
            Checks.trials(x, 0, 1, 1, 2, 0);
            CHECKS.refused("trials of boat " + boat, x, 1, () -> Checks.trials(x, boat, 1, 1));
            CHECKS.gone("trials of boat " + boat, x);
        }
        ShyBoats y = new ShyBoats();
        CHECKS.refused("no lake", y, 1, () -> Checks.trials(y, 0, 0, 1));
        CHECKS.gone("no lake", y);
    }

    private static void trusts(String what, ShyBoats x, int many, int least, int greatest) {
        CHECKS.due(what + ", many", x.trusts(0), many);
        CHECKS.due(what + ", least", x.trusts(1), least);
        CHECKS.due(what + ", greatest", x.trusts(2), greatest);
    }

    private static void howItCanTrust() {
        CHECKS.holds("III", "TRIALS are rows of CELL, 1 if it went, else 0, told of a BOAT: how it can trust (0 .. 99) so that it goes just where told (DREAD as now).");
        ShyBoats x = Checks.onLake(WATERS);
        Checks.trials(x, 0, 0, 1);
        trusts("all", x, 100, 0, 99);
        Checks.trials(x, 0, 0, 0);
        trusts("none balks at what it does not dread", x, 0, -1, -1);
        Checks.trials(x, 0, 1, 1, 2, 0);
        trusts("between", x, 10, 10, 19);
        Checks.trials(x, 0, 2, 0, 1, 1, 5, 0, 3, 1);
        trusts("in any row", x, 10, 10, 19);
        Checks.trials(x, 0, 1, 1, 1, 0);
        trusts("both", x, 0, -1, -1);
        Checks.trials(x, 0, 1, 1);
        x.hours(3);
        trusts("as it storms now", x, 78, 22, 99);
        x.undo();
        x.go(1, 1);
        trusts("as that boat balked, not another", x, 90, 10, 99);
        ShyBoats y = Checks.onLake("lake 3;row hsd;boat a trust 5 at 0 0;dread 99;");
        Checks.trials(y, 0, 1, 1);
        trusts("99 alone", y, 1, 99, 99);
        Checks.trials(y, 0, 1, 0);
        trusts("all but 99", y, 99, 0, 98);
        ShyBoats z = Checks.onLake("lake 3;row hsd;boat a trust 5 at 0 0;dread depth;");
        Checks.trials(z, 0, 1, 0);
        trusts("0 alone", z, 1, 0, 0);
        ShyBoats w = Checks.onLake("lake 3;row hsd;boat a trust 5 at 0 0;dread 1000;");
        Checks.trials(w, 0, 1, 1);
        trusts("no DREAD is above 99", w, 1, 99, 99);
    }

    private static void trustsTold() {
        CHECKS.holds("Promise 22", "By TRIALS: how many trusts can be (what 0), the least (1), the greatest (2; NONE of both without).");
        ShyBoats x = Checks.onLake(WATERS);
        Checks.trials(x, 1, 1, 1, 5, 0);
        trusts("some", x, 15, 10, 24);
        Checks.trials(x, 1, 1, 0, 5, 1);
        trusts("without", x, 0, -1, -1);
        Checks.trials(x, 1, 5, 1, 5, 0);
        trusts("without, though only just", x, 0, -1, -1);
    }

    private static void noTrusts() {
        CHECKS.holds("Promise 22", "NONE ahead of any, or for others.");
        ShyBoats x = Checks.onLake(WATERS);
        trusts("ahead of any", x, -1, -1, -1);
        trusts("no lake", new ShyBoats(), -1, -1, -1);
        Checks.trials(x, 2, 1, 1);
        trusts("of refused ones", x, -1, -1, -1);
        Checks.trials(x, 0, 1, 1);
        for (int what : new int[] {-1, 3, LOW, HIGH}) {
            CHECKS.due("what " + what, x.trusts(what), -1);
        }
        Checks.lake(x, WATERS);
        trusts("of another lake", x, -1, -1, -1);
    }

    private static void next(String what, ShyBoats x, int cell, int alike) {
        CHECKS.due(what + ", cell", x.next(0), cell);
        CHECKS.due(what + ", alike", x.next(1), alike);
    }

    private static void nextCell() {
        CHECKS.holds("III", "NEXT: the CELL (no land) by which of those trusts the most that would do alike are fewest; of like ones the first.");
        ShyBoats x = Checks.onLake(WATERS);
        Checks.trials(x, 0, 0, 1);
        next("of 100 trusts, 25 stay at the wreck", x, 5, 75);
        Checks.trials(x, 0, 1, 1, 5, 0);
        next("of 10 .. 24, ten stay at the deep", x, 2, 10);
        Checks.trials(x, 0, 1, 0);
        next("of 0 .. 9 all do alike everywhere: the first cell", x, 0, 10);
        Checks.trials(x, 0, 2, 1, 5, 0);
        next("of 20 .. 24 likewise", x, 0, 5);
        ShyBoats y = Checks.onLake("lake 3;row lss;row hsd;boat a trust 5 at 0 1;dread depth*50;");
        Checks.trials(y, 0, 3, 1);
        next("of like ones the first, no land", y, 1, 50);
        ShyBoats z = Checks.onLake("lake 3;row hsd;boat a trust 5 at 0 0;dread depth*33;");
        Checks.trials(z, 0, 0, 1);
        next("33 stay at the shallow, 34 go to the deep", z, 2, 66);
        ShyBoats w = Checks.onLake("lake 3;row hsd;boat a trust 5 at 0 0;dread 99*depth;");
        Checks.trials(w, 0, 1, 1);
        next("of one trust", w, 0, 1);
        ShyBoats v = Checks.onLake("lake 3;row llh;row lll;boat a trust 5 at 2 0;");
        Checks.trials(v, 0, 2, 1);
        next("one cell that is no land", v, 2, 100);
        ShyBoats u = Checks.onLake("lake 8;" + "row hhhhhhhh;".repeat(6) + "boat a trust 5 at 0 0;dread home;");
        Checks.trials(u, 0, 47, 1);
        next("none beyond the last cell", u, 0, 100);
        ShyBoats t = Checks.onLake("lake 8;" + "row hhhhhhhh;".repeat(5) + "row hhhhhhhs;boat a trust 5 at 0 0;dread depth*50;");
        Checks.trials(t, 0, 47, 1, 0, 1);
        trusts("by the last cell", t, 50, 50, 99);
        Checks.trials(t, 0, 0, 1);
        next("the last cell", t, 47, 50);
    }

    private static void nextTold() {
        CHECKS.holds("Promise 23", "NEXT by TRIALS: the CELL (what 0), how many do alike at the most (1).");
        ShyBoats x = Checks.onLake(WATERS);
        Checks.trials(x, 1, 1, 1);
        String before = Checks.stateOf(x);
        next("of 10 .. 99", x, 5, 75);
        x.go(1, 1);
        next("as that boat has balked", x, 5, 74);
        x.undo();
        CHECKS.due("nothing changes", Checks.stateOf(x).equals(before), true);
    }

    private static void noNext() {
        CHECKS.holds("Promise 23", "NONE ahead of any, without such a trust, or for others.");
        ShyBoats x = Checks.onLake(WATERS);
        next("ahead of any", x, -1, -1);
        next("no lake", new ShyBoats(), -1, -1);
        Checks.trials(x, 0, 1, 0, 1, 1);
        next("without such a trust", x, -1, -1);
        Checks.trials(x, 0, 1, 1);
        for (int what : new int[] {-1, 2, LOW, HIGH}) {
            CHECKS.due("what " + what, x.next(what), -1);
        }
    }
}
