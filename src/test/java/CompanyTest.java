import java.util.ArrayList;
import java.util.List;
import java.util.Random;

/** Promises 18, 19, 20. */
public final class CompanyTest {
    private static final Checks CHECKS = new Checks();

    public static void main(String[] args) {
        plainOrder();
        plainLead();
        refusals();
        plainMatch();
        sixInARow();
        for (int seed = 0; seed < 250; seed++) {
            filesByChance(new Random(seed));
            matchByChance(new Random(seed));
        }
        CHECKS.finish();
    }

    private static void row(String what, ShyBoats x, int boats, int cell, int gone, int... due) {
        CHECKS.due(what + " gone", x.order(boats, cell, -1), gone);
        for (int k = 0; k < due.length; k++) {
            CHECKS.due(what + " " + k, x.order(boats, cell, k), due[k]);
        }
        CHECKS.due(what + " behind", x.order(boats, cell, due.length), -1);
    }

    private static void plainOrder() {
        ShyBoats x = Checks.onLake("lake 3;row hds;row ssl;boat a trust 10 at 0 0;boat b trust 20 at 0 0;"
            + "boat c trust 16 at 0 0;dread depth*10-bold/5;grows trust+fear;");
        row("b ahead", x, 7, 1, 2, 0, 1, 2);
        row("shallow", x, 7, 3, 3, 0, 1, 2);
        row("two", x, 5, 1, 0, 0, 2);
        row("one", x, 2, 1, 1, 1);
        ShyBoats y = Checks.onLake("lake 3;row hds;boat a trust 10 at 0 0;boat b trust 12 at 0 0;boat c trust 20 at 0 0;"
            + "dread depth*10-bold/2;grows trust-fear/5;");
        row("c, then b", y, 7, 1, 2, 0, 2, 1);
        CHECKS.due("nothing changes", y.has(9) + y.has(7), 0);
        CHECKS.due("nor trust", y.has(8), 42);
        CHECKS.due("nothing to undo", y.has(11), 0);
    }

    private static void plainLead() {
        ShyBoats x = Checks.onLake("lake 3;row hds;row lsl;boat a trust 20 at 0 0;boat b trust 30 at 0 0;boat c trust 5 at 0 0;"
            + "dread depth*10-bold/3;grows trust+fear;");
        CHECKS.due("b leads all", x.lead(7, 1, 0), 1);
        CHECKS.due("all three", x.lead(7, 1, 1), 3);
        CHECKS.due("a alone", x.lead(5, 1, 0), 0);
        CHECKS.due("a is one", x.lead(5, 1, 1), 1);
        CHECKS.due("none goes", x.lead(4, 1, 0), -1);
        CHECKS.due("none goes, many", x.lead(4, 1, 1), -1);
        CHECKS.due("of like ones the first", x.lead(3, 1, 0), 0);
        CHECKS.due("what 2", x.lead(7, 1, 2), -1);
        CHECKS.due("what -1", x.lead(7, 1, -1), -1);
    }

    private static void refusals() {
        ShyBoats x = Checks.onLake("lake 3;row hsl;row shs;boat a trust 20 at 0 0;boat b trust 20 at 0 0;boat c trust 20 at 1 1;");
        int[][] none = {{0, 1}, {8, 1}, {9, 1}, {-1, 1}, {5, 1}, {7, 1}, {3, 0}, {3, 4}, {3, 2}, {3, -1}, {3, 6}, {4, 0},
            {Integer.MIN_VALUE, 1}, {Integer.MAX_VALUE, 1}, {3 + (1 << 30), 1}};
        for (int[] row : none) {
            CHECKS.due("no order " + row[0] + " " + row[1], x.order(row[0], row[1], -1), -1);
            CHECKS.due("no row " + row[0] + " " + row[1], x.order(row[0], row[1], 0), -1);
            CHECKS.due("no lead " + row[0] + " " + row[1], x.lead(row[0], row[1], 0), -1);
        }
        CHECKS.due("k -2", x.order(3, 1, -2), -1);
        CHECKS.due("k 2", x.order(3, 1, 2), -1);
        CHECKS.due("c goes left", x.order(4, 3, -1), 1);
        CHECKS.due("no such boat", x.match(3), -1);
        CHECKS.due("no such boat", x.match(-1), -1);
        CHECKS.due("no hand", x.match(0), -1);
    }

    private static void plainMatch() {
        ShyBoats x = Checks.onLake("lake 3;row hsl;boat a trust 20 at 0 0;boat b trust 30 at 0 0;boat c trust 20 at 0 0;"
            + "hand m skill 0;hand n skill 0;hand o skill 0;likes a n 5;likes b n 5;likes b o 5;likes c n 9;likes c o 1;");
        CHECKS.due("b has whom it likes, the first", x.match(1), 1);
        CHECKS.due("a, of like ones the first", x.match(0), 0);
        CHECKS.due("c has who is left", x.match(2), 2);
        CHECKS.due("a trusts more then", x.coax(0, 5), 45);
        CHECKS.due("a has n", x.match(0), 1);
        CHECKS.due("b has o", x.match(1), 2);
        CHECKS.due("c has m", x.match(2), 0);
        CHECKS.due("none is in a boat", x.boat(0, 3), -1);
    }

    private static void sixInARow() {
        StringBuilder text = new StringBuilder("lake 3;row hds;dread depth*10-bold/2+ahead;grows trust+1;");
        for (int boat = 0; boat < 6; boat++) {
            text.append("boat ").append((char) ('a' + boat)).append(" trust ").append(5 + 3 * boat).append(" at 0 0;");
        }
        ShyBoats x = Checks.onLake(text.toString());
        row("f goes, then those who dare", x, 63, 1, 4, 0, 1, 5, 2, 4, 3);
        CHECKS.due("f leads", x.lead(63, 1, 0), 5);
        CHECKS.due("four behind it", x.lead(63, 1, 1), 4);
        CHECKS.due("k 6", x.order(63, 1, 6), -1);
    }

    private static void rows(List<Integer> left, List<Integer> row, List<List<Integer>> all) {
        if (left.isEmpty()) {
            all.add(new ArrayList<>(row));
        }
        for (int i = 0; i < left.size(); i++) {
            List<Integer> others = new ArrayList<>(left);
            row.add(others.remove(i));
            rows(others, row, all);
            row.remove(row.size() - 1);
        }
    }

    private static int beside(ShyBoats x, Random random) {
        int columns = x.has(0);
        int from = x.boat(0, 0);
        int[] all = {from - columns, from % columns == 0 ? -1 : from - 1, from % columns == columns - 1 ? -1 : from + 1, from + columns};
        int first = random.nextInt(4);
        for (int i = 0; i < 4; i++) {
            int cell = all[(first + i) % 4];
            if (x.cell(cell, 0) >= 0) {
                return cell;
            }
        }
        return -1;
    }

    /** Each row is sent as a FILE and taken back; each BOAT goes ahead and is taken back. */
    private static void filesByChance(Random random) {
        String text = Chance.lake(random, 4, 2) + Chance.someDread(random) + Chance.someLearning(random);
        ShyBoats x = Checks.onLake(text);
        x.man(random.nextInt(4), 0);
        int cell = beside(x, random);
        if (cell < 0) {
            return;
        }
        int boats = 1 + random.nextInt(15);
        List<Integer> some = new ArrayList<>();
        for (int boat = 0; boat < 4; boat++) {
            if ((boats >> boat & 1) == 1) {
                some.add(boat);
            }
        }
        List<List<Integer>> all = new ArrayList<>();
        rows(some, new ArrayList<>(), all);
        int most = -1;
        List<Integer> best = null;
        for (List<Integer> row : all) {
            int gone = Checks.file(x, cell, row.stream().mapToInt(boat -> boat).toArray());
            x.undo();
            if (gone > most) {
                most = gone;
                best = row;
            }
        }
        CHECKS.due("order of " + boats + " in " + text, x.order(boats, cell, -1), most);
        for (int k = 0; k < best.size(); k++) {
            CHECKS.due("order " + k + " in " + text, x.order(boats, cell, k), best.get(k));
        }
        leadByChance(x, text, boats, cell, some);
    }

    private static void leadByChance(ShyBoats x, String text, int boats, int cell, List<Integer> some) {
        int most = 0;
        int leader = -1;
        for (int boat : some) {
            int many = x.go(boat, cell);
            for (int other : some) {
                if (many > 0 && other != boat && x.dread(other, cell, boat) <= x.boat(other, 1)) {
                    many++;
                }
            }
            x.undo();
            if (many > most) {
                most = many;
                leader = boat;
            }
        }
        CHECKS.due("leader in " + text, x.lead(boats, cell, 0), leader);
        CHECKS.due("led in " + text, x.lead(boats, cell, 1), leader < 0 ? -1 : most);
    }

    private static boolean isLess(int a, int b, int placeA, int placeB) {
        return a < b || a == b && placeA > placeB;
    }

    /** BOAT rather has another HAND than the one that it has. */
    private static boolean rather(ShyBoats x, int boat, int hand, int has) {
        return has < 0 || isLess(x.likes(boat, has), x.likes(boat, hand), has, hand);
    }

    private static boolean isFirm(ShyBoats x, int[] hands) {
        for (int boat = 0; boat < hands.length; boat++) {
            for (int hand = 0; hand < x.has(3); hand++) {
                int holder = -1;
                for (int other = 0; other < hands.length; other++) {
                    holder = hands[other] == hand ? other : holder;
                }
                boolean wants = holder < 0 || isLess(x.boat(holder, 1), x.boat(boat, 1), holder, boat);
                if (hands[boat] != hand && rather(x, boat, hand, hands[boat]) && wants) {
                    return false;
                }
            }
        }
        return true;
    }

    private static void matchings(ShyBoats x, int[] hands, int boat, int used, List<int[]> all) {
        if (boat == hands.length) {
            if (isFirm(x, hands)) {
                all.add(hands.clone());
            }
            return;
        }
        for (int hand = -1; hand < x.has(3); hand++) {
            if (hand < 0 || (used >> hand & 1) == 0) {
                hands[boat] = hand;
                matchings(x, hands, boat + 1, hand < 0 ? used : used | 1 << hand, all);
            }
        }
    }

    /** Of all that are firm, each BOAT has the best HAND that it has in any. */
    private static void matchByChance(Random random) {
        int boats = 1 + random.nextInt(4);
        String text = Chance.lake(random, boats, 1 + random.nextInt(4)).toString();
        ShyBoats x = Checks.onLake(text);
        List<int[]> all = new ArrayList<>();
        matchings(x, new int[boats], 0, 0, all);
        for (int boat = 0; boat < boats; boat++) {
            int best = -1;
            for (int[] hands : all) {
                best = hands[boat] >= 0 && rather(x, boat, hands[boat], best) ? hands[boat] : best;
            }
            CHECKS.due("hand of " + boat + " in " + text, x.match(boat), best);
        }
    }
}
