import java.util.HashMap;
import java.util.Map;
import java.util.Random;

/** Promise 32, and promise 5 of its FAULTS. */
public final class QuestionTest {
    private static final Checks CHECKS = new Checks();
    private static final String LAKE = "lake 4;row hsdw;row hsdl;row sssd;boat ann trust 15 at 0 0;boat bob trust 5 at 0 0;"
        + "boat cid trust 30 at 0 1;dread depth*10+wreck*15-ahead*50;";

    public static void main(String[] args) {
        plain();
        noBoat();
        faults();
        tooDeep();
        for (int seed = 0; seed < 500; seed++) {
            byChance(new Random(seed));
        }
        CHECKS.finish();
    }

    private static void plain() {
        ShyBoats x = Checks.onLake(LAKE);
        Object[][] rows = {
            {"often all", 12}, {"first all", 0}, {"last all", 11}, {"total 1", 12}, {"most number", 11}, {"least number", 0},
            {"most across", 3}, {"most down", 2}, {"total across", 18}, {"total down", 12}, {"total depth", 13}, {"total wreck", 1},
            {"first wreck=1", 3}, {"last depth=0", 7}, {"first depth=0 and number>4", 7}, {"first dread=99", 7}, {"total dread", 244},
            {"most home", 4}, {"least home", 0}, {"total trust", 180}, {"total boats number", 3}, {"most boats 0", 2}, {"most boats 4", 1},
            {"total boats(0-1)", 0}, {"total boats 12", 0}, {"total boats 9999", 0}, {"most boats 0*5", 10}, {"often boats number>0", 2},
            {"first number>20", -1}, {"last number>20", -1}, {"often number>20", 0}, {"often not all", 0}, {"often not number<3", 9},
            {"often number<3 or number>9", 5}, {"often number<3 and number>0", 2}, {"often number=1 or number=2 and number=3", 1},
            {"often[number=1 or number=2]and number=2", 1}, {"often not number=1 and number<3", 2}, {"often not[number=1 and number<3]", 11},
            {"often not not number=1", 1}, {"least 0-number", -11}, {"least 0-9999*9999", -1000000}, {"total 9999*9999", 12000000},
            {"total 0-9999*9999", -12000000}, {"  often\nall  ", 12}, {"often(number)=(3)", 1}, {"often min(number,3)=3", 9},
            {"often max(number,3)=3", 4}, {"most dread/7", 14}, {"first dread>trust", 2}, {"last dread<trust+1", 10}};
        for (Object[] row : rows) {
            CHECKS.due((String) row[0], Checks.ask(x, 0, (String) row[0]), (Integer) row[1]);
            CHECKS.due("no fault: " + row[0], x.fault(0), 0);
            CHECKS.due("no place: " + row[0], x.fault(1), -1);
            CHECKS.due("the tape goes: " + row[0], x.end(1), false);
        }
        CHECKS.due("of another boat", Checks.ask(x, 2, "first dread>trust"), 3);
        CHECKS.due("it trusts more", Checks.ask(x, 2, "most trust"), 30);
    }

    private static void noBoat() {
        ShyBoats x = Checks.onLake(LAKE);
        Checks.lake(x, "lake 3");
        for (int boat : new int[] {-1, 3, Integer.MAX_VALUE, Integer.MIN_VALUE}) {
            CHECKS.due("none such", Checks.ask(x, boat, "often all"), ShyBoats.NOTHING);
            CHECKS.due("the tape goes", x.end(1), false);
            CHECKS.due("the fault stays", x.fault(0), 1);
            CHECKS.due("its place", x.fault(1), 6);
        }
        CHECKS.due("nothing", ShyBoats.NOTHING, -1000000000000000L);
        CHECKS.due("none", ShyBoats.NONE, -1);
    }

    private static void faulty(int fault, String marked) {
        CHECKS.faultyQuestion(Checks.onLake(LAKE), fault, marked);
    }

    private static void faults() {
        String[] texts = {"|", "  |", "|all", "|oft all", "|oftens all", "|dread 5", "|5", "|Often all", "often|", "often  |", "often |;",
            "often|5<6", "often |foo", "often |or", "often all|;", "often all |all", "often all |5", "often all or|", "often all or |or all",
            "often all |xor all", "often all and |", "often not|", "often not |or", "often [all|", "often [all|)", "often [|]", "often |]",
            "often number|", "often number |all", "often number<|", "often number<|<5", "often number<5|<6", "often number<5 |5", "often 5<5|x",
            "often number|!5", "often (|all", "often (number|<5", "often |sky=1", "often |balks=1",
            "often |skill=1", "often |ahead=1", "often |bold=1", "often |fear=1", "total|", "total |all", "total number|<5", "total |not 5",
            "total |[5]", "total boats|", "total boats |all", "total boats|5", "total 5|boats 5", "total 1234|5", "total min|", "total min |5",
            "total min(5|)", "total min(5,5|", "total |sky", "most |first", "total 5 |first", "total 5 |5", "least 5|;", "total 5+|", "total 5|,",
            "often 5=5|or 5=5", "often all|5", "often all and not |trusty>5"};
        for (String text : texts) {
            faulty(1, text);
        }
    }

    private static void tooDeep() {
        ShyBoats x = Checks.onLake(LAKE);
        String[] good = {"often not not not not not not all", "often [[[[[[all]]]]]]", "total ((((((5))))))", "total boats boats boats boats boats boats 5",
            "often not[not[boats(number)=0]]", "often [[[all]]]and [[[[[[all]]]]]]or not not not not not not all",
            "often not not not not not not all and not not not not not not all", "often not not not 5=(((5)))",
            "often not [min(boats((number)),5)<9]", "total boats boats 5+boats boats boats boats boats boats 5"};
        for (String text : good) {
            CHECKS.due(text, Checks.ask(x, 0, text) != ShyBoats.NOTHING, true);
        }
        String[] deep = {"often not not not not not not |not all", "often [[[[[[|[all]]]]]]]", "total ((((((|(5)))))))",
            "total boats boats boats boats boats boats |boats 5", "often not[not[boats(|(5",
            "often not not not 5=(((|(5))))", "often not [min(boats((|(number)", "often [[[[[not |not", "often [[[[[[|boats",
            "often [[[[[[5=|boats 5", "often [[[[[[min|(5,6)=5", "often [[[[[[5=5 and |not all"};
        for (String text : deep) {
            faulty(4, text);
        }
        faulty(1, "often [[[[[[all |[");
        faulty(1, "total ((((((5|(");
        CHECKS.due("six nots", Checks.ask(x, 0, "often not not not not not not number<4"), 4);
        CHECKS.due("five nots", Checks.ask(x, 0, "often not not not not not number<4"), 8);
    }

    private static Map<String, Integer> look(ShyBoats x, int boat, int cell) {
        Map<String, Integer> values = new HashMap<>();
        boolean land = x.cell(cell, 0) < 0;
        values.put("number", cell);
        values.put("across", cell % x.has(0));
        values.put("down", cell / x.has(0));
        values.put("depth", land ? 0 : x.cell(cell, 0));
        values.put("wreck", x.cell(cell, 1));
        values.put("home", x.cell(cell, 2));
        values.put("dread", land ? 99 : x.dread(boat, cell, -1));
        values.put("trust", x.boat(boat, 1));
        for (int other = 0; other < x.has(0) * x.has(1); other++) {
            values.put("boats " + other, Integer.bitCount(x.cell(other, 3)));
        }
        return values;
    }

    private static void byChance(Random random) {
        String lake = Chance.lake(random, 3, 1) + Chance.someDread(random);
        ShyBoats x = Checks.onLake(lake);
        x.seed(random.nextInt(1000));
        x.drift(1 + random.nextInt(9));
        Chance chance = new Chance(random, Chance.OF_CELL);
        int boat = random.nextInt(3);
        Chance.Part sum = chance.sum(0);
        Chance.Part test = chance.test(0);
        long first = -1;
        long last = -1;
        long many = 0;
        long total = 0;
        long most = Long.MIN_VALUE;
        long least = Long.MAX_VALUE;
        for (int cell = 0; cell < x.has(0) * x.has(1); cell++) {
            Map<String, Integer> values = look(x, boat, cell);
            long worth = sum.worth(values);
            total += worth;
            most = Math.max(most, worth);
            least = Math.min(least, worth);
            if (test.worth(values) != 0) {
                many++;
                first = first < 0 ? cell : first;
                last = cell;
            }
        }
        String[] verbs = {"first ", "last ", "often ", "total ", "most ", "least "};
        long[] due = {first, last, many, total, most, least};
        for (int i = 0; i < 6; i++) {
            String text = verbs[i] + (i < 3 ? test.text() : sum.text());
            if (text.length() <= 1600) {
                CHECKS.due(text + " in " + lake, Checks.ask(x, boat, text), due[i]);
            }
        }
    }
}
