import java.util.HashMap;
import java.util.Map;
import java.util.Random;

/** Promise 14, and SUMS of dread, grows, falls as term I tells them. */
public final class DreadTest {
    private static final Checks CHECKS = new Checks();

    public static void main(String[] args) {
        refusals();
        words();
        signs();
        for (int seed = 0; seed < 400; seed++) {
            byChance(new Random(seed));
        }
        CHECKS.finish();
    }

    private static void refusals() {
        ShyBoats x = Checks.onLake("lake 3;row hsd;row wlh;boat a trust 5 at 0 0;boat b trust 40 at 2 1;");
        int[] due = {0, 10, 20, 20, -1, 0};
        for (int cell = 0; cell < 6; cell++) {
            CHECKS.due("10 times depth, " + cell, x.dread(0, cell, -1), due[cell]);
            CHECKS.due("behind another, " + cell, x.dread(0, cell, 1), due[cell]);
            CHECKS.due("behind itself, " + cell, x.dread(0, cell, 0), -1);
        }
        int[][] none = {{-1, 0, -1}, {2, 0, -1}, {0, -1, -1}, {0, 6, -1}, {0, 0, -2}, {0, 0, 2}, {-1, 0, 0}, {-1, -1, -1}};
        for (int[] row : none) {
            CHECKS.due("no such dread", x.dread(row[0], row[1], row[2]), -1);
        }
    }

    private static int dreadOf(String sum, int cell, int behind) {
        ShyBoats x = Checks.onLake("lake 4;row sdwl;row hssd;boat a trust 7 at 0 1;boat b trust 41 at 0 1;"
            + "hand m skill 6;fog at 1;storm at 3;dread " + sum + ";");
        x.go(0, 5);
        x.go(0, 0);
        x.go(0, 0);
        x.hours(2);
        x.man(0, 0);
        return x.dread(0, cell, behind);
    }

    private static void words() {
        CHECKS.due("balks", dreadOf("depth*10+balks*8", 4, -1), 24);
        CHECKS.due("depth", dreadOf("depth", 2, -1), 2);
        CHECKS.due("wreck", dreadOf("wreck", 2, -1), 1);
        CHECKS.due("no wreck", dreadOf("wreck", 1, -1), 0);
        CHECKS.due("home", dreadOf("home", 7, -1), 3);
        CHECKS.due("home across and down", dreadOf("home", 2, -1), 3);
        CHECKS.due("sky", dreadOf("sky", 2, -1), 2);
        CHECKS.due("skill", dreadOf("skill", 2, -1), 6);
        CHECKS.due("alone", dreadOf("ahead*10+bold", 2, -1), 0);
        CHECKS.due("ahead", dreadOf("ahead*10", 2, 1), 10);
        CHECKS.due("bold", dreadOf("bold", 2, 1), 41);
    }

    private static void signs() {
        Object[][] rows = {
            {"5-3-1", 1}, {"2+3*4", 14}, {"(2+3)*4", 20}, {"20/3/2", 3}, {"20/(3/2)", 20}, {"2*7/4", 3}, {"7/4*2", 2},
            {"50+(0-7)/2", 46}, {"50+7/(0-2)", 46}, {"50+(0-7)/(0-2)", 53}, {"50+(0-8)/2", 46}, {"9/0", 0}, {"9+9/0*5", 9},
            {"9999*9999-9999*100-90", 10}, {"9999*9999+5-9999*100-90", 10}, {"9999*101-9999*100-90", 10},
            {"0-9999*9999-9+9999*100+107", 7}, {"0-9999*100-9999+9999*100+107", 7}, {"(0-9999)*9999+9999*100+107", 7},
            {"100", 99}, {"0-1", 0}, {"99", 99},
            {"min(7,9)", 7}, {"max(7,9)", 9}, {"min(9,7)", 7}, {"max(9,7)", 9}, {"min(max(1,2),max(3,0-5))*3", 6}, {"0007", 7},
            {" \n7\n+ 8 ", 15}, {"((((((9))))))", 9}};
        for (Object[] row : rows) {
            CHECKS.due("dread " + row[0], dreadOf((String) row[0], 1, -1), (Integer) row[1]);
        }
    }

    private static int inTrust(long value) {
        return (int) Math.max(0, Math.min(99, value));
    }

    private static Map<String, Integer> look(ShyBoats x, int boat, int cell, int behind) {
        Map<String, Integer> values = new HashMap<>();
        int hand = x.boat(boat, 3);
        values.put("depth", x.cell(cell, 0));
        values.put("wreck", x.cell(cell, 1));
        values.put("home", x.cell(cell, 2));
        values.put("sky", x.has(5));
        values.put("balks", x.boat(boat, 2));
        values.put("skill", hand < 0 ? 0 : x.hand(hand, 0));
        values.put("ahead", behind < 0 ? 0 : 1);
        values.put("bold", behind < 0 ? 0 : x.boat(behind, 1));
        values.put("trust", x.boat(boat, 1));
        return values;
    }

    private static void byChance(Random random) {
        Chance ofDread = new Chance(random, Chance.OF_DREAD);
        Chance ofTrust = new Chance(random, Chance.OF_TRUST);
        Chance.Part dread = ofDread.sum(0);
        Chance.Part grows = ofTrust.sum(0);
        Chance.Part falls = ofTrust.sum(0);
        String sums = "dread " + dread.text() + ";grows " + grows.text() + ";falls " + falls.text() + ";";
        String text = Chance.lake(random, 3, 2) + sums;
        if (text.length() > 1600) {
            return;
        }
        ShyBoats x = Checks.onLake(text);
        x.man(random.nextInt(3), random.nextInt(2));
        for (int n = 0; n < 12; n++) {
            int boat = random.nextInt(3);
            int columns = x.has(0);
            int from = x.boat(boat, 0);
            int[] beside = {from - columns, from - 1, from + 1, from + columns};
            int cell = beside[random.nextInt(4)];
            boolean oneRow = cell >= 0 && cell / columns == from / columns;
            boolean can = cell >= 0 && cell < columns * x.has(1) && x.cell(cell, 0) >= 0
                && (oneRow || cell % columns == from % columns);
            if (can) {
                goOnce(x, boat, cell, text, dread, grows, falls);
            } else {
                CHECKS.due("can't go in " + text, x.go(boat, cell), -1);
            }
            x.hours(1);
        }
    }

    private static void goOnce(ShyBoats x, int boat, int cell, String text, Chance.Part... sums) {
        for (int behind = -1; behind < 3; behind++) {
            if (behind != boat) {
                int due = inTrust(sums[0].worth(look(x, boat, cell, behind)));
                CHECKS.due("dread behind " + behind + " in " + text, x.dread(boat, cell, behind), due);
            }
        }
        Map<String, Integer> values = look(x, boat, cell, -1);
        int fear = inTrust(sums[0].worth(values));
        values.put("fear", fear);
        boolean goes = fear <= values.get("trust");
        int trust = inTrust((goes ? sums[1] : sums[2]).worth(values));
        int from = x.boat(boat, 0);
        CHECKS.due("goes in " + text, x.go(boat, cell), goes ? 1 : 0);
        CHECKS.due("trusts then in " + text, x.boat(boat, 1), trust);
        CHECKS.due("is then in " + text, x.boat(boat, 0), goes ? cell : from);
        CHECKS.due("balked then in " + text, x.boat(boat, 2), values.get("balks") + (goes ? 0 : 1));
    }
}
