import java.util.ArrayList;
import java.util.Arrays;
import java.util.List;
import java.util.Random;

/** Promises 1 to 36: whole runs of calls by chance, good and bad, which the class and the Model answer alike. */
public final class ModelTest {
    private static final Checks CHECKS = new Checks();
    /** The document promises nothing beyond so many. */
    private static final int MOST_CALLS = 512;
    /** A text of 1600 bytes, then what is looked at behind an act. */
    private static final int MOST_IN_A_STEP = 130;
    private static final String[] TOKENS = ("lake row boat trust at hand skill likes calm rain fog storm dread grows falls coax depth wreck home sky balks"
        + " ahead bold fear number across down boats or and not all min max first last often total most least ( ) [ ] + - * / < > = , ; 0 1 2 3 5"
        + " 9 10 99 100 0003 9999 10000 123456 a b ann hsd hsdwl abcdef abcdefg A ? \u0000 \u00ff").split(" ");

    private final Random random;
    private final ShyBoats x = new ShyBoats();
    private final Model model = new Model();
    private final StringBuilder run = new StringBuilder();
    private int calls;
    private boolean same = true;

    private ModelTest(Random random) {
        this.random = random;
    }

    public static void main(String[] args) {
        int runs = args.length > 0 ? Integer.parseInt(args[0]) : 400;
        for (int seed = 0; seed < runs; seed++) {
            ModelTest test = new ModelTest(new Random(seed * 7919L + 17));
            test.play();
            CHECKS.due("run " + seed + ", alike", test.same, true);
            CHECKS.due("run " + seed + ", not too long", test.calls <= MOST_CALLS, true);
            if (!test.same) {
                System.out.println(test.run);
            }
        }
        CHECKS.finish();
    }

    private void play() {
        if (random.nextInt(40) != 0) {
            put(bytesOf(join(random.nextInt(20) == 0 ? spoiled(lakeTokens()) : lakeTokens())));
            alike("lake()", x.lake(), model.lake());
        }
        while (same && calls < MOST_CALLS - MOST_IN_A_STEP) {
            step();
        }
    }

    private void alike(String call, long got, long due) {
        calls++;
        run.append("  ").append(call).append(" -> ").append(got);
        if (got != due) {
            same = false;
            run.append(", due is ").append(due);
        }
        run.append('\n');
    }

    private void alike(String call, boolean got, boolean due) {
        alike(call, got ? 1 : 0, due ? 1 : 0);
    }

    // ---- texts by chance

    private static int[] bytesOf(String text) {
        return text.chars().limit(1600).toArray();
    }

    private void put(int... bytes) {
        if (random.nextInt(30) != 0) {
            alike("end(0)", x.end(0), model.end(0));
        }
        for (int from = 0; from < bytes.length; from += 20) {
            int[] five = new int[5];
            for (int i = 0; i < 20; i++) {
                five[i / 4] = five[i / 4] << 8 | (from + i < bytes.length ? bytes[from + i] & 255 : 32);
            }
            alike("feed(" + Arrays.toString(five) + ")", x.feed(five[0], five[1], five[2], five[3], five[4]),
                model.feed(five[0], five[1], five[2], five[3], five[4]));
        }
        alike("end(" + bytes.length + ")", x.end(bytes.length), model.end(bytes.length));
    }

    private int upTo(int most) {
        return random.nextInt(most + 1);
    }

    private String oneOf(String... all) {
        return all[random.nextInt(all.length)];
    }

    /** Blanks where they are needed, sometimes where they are not, seldom none where one is needed. */
    private String join(List<String> tokens) {
        StringBuilder text = new StringBuilder();
        boolean careless = random.nextInt(12) == 0;
        for (String token : tokens) {
            boolean needed = text.length() > 0 && isWordy(text.charAt(text.length() - 1)) && isWordy(token.charAt(0));
            if (needed ? !careless || random.nextInt(30) != 0 : random.nextInt(12) == 0) {
                text.append(oneOf(" ", " ", "\n", " \n"));
            }
            text.append(token);
        }
        return text.toString();
    }

    private static boolean isWordy(char sign) {
        return sign >= 'a' && sign <= 'z' || sign >= '0' && sign <= '9';
    }

    private static void add(List<String> tokens, String text) {
        tokens.addAll(List.of(text.split(" ")));
    }

    private List<String> lakeTokens() {
        int columns = 3 + upTo(5);
        int rows = random.nextInt(20) == 0 ? upTo(7) : 2 + upTo(3);
        List<String> tokens = new ArrayList<>();
        List<String> harbours = new ArrayList<>();
        add(tokens, "lake " + columns + " ;");
        String kinds = oneOf("hssdddwl", "hhssdw", "sssdw", "hsdwllll");
        for (int row = 0; row < rows; row++) {
            StringBuilder cells = new StringBuilder();
            for (int column = 0; column < columns; column++) {
                char kind = row == 0 && column == 1 && random.nextInt(20) != 0 ? 'h' : kinds.charAt(random.nextInt(kinds.length()));
                cells.append(kind);
                if (kind == 'h') {
                    harbours.add(column + " " + row);
                }
            }
            add(tokens, "row " + cells + " ;");
        }
        int boats = harbours.isEmpty() ? 0 : random.nextInt(40) == 0 ? 7 * upTo(1) : 1 + upTo(5);
        int hands = random.nextInt(40) == 0 ? 7 : upTo(6);
        String[] boatNames = {"ann", "b", "first", "zzzzzz", "boa", "most", "g"};
        String[] handNames = {"a", "mac", "abcdef", "often", "lak", "mi", "x"};
        boolean together = random.nextBoolean();
        for (int i = 0; i < boats; i++) {
            String at = harbours.get(together ? 0 : random.nextInt(harbours.size()));
            add(tokens, "boat " + boatNames[i] + " trust " + upTo(random.nextBoolean() ? 30 : 99) + " at " + at + " ;");
        }
        for (int i = 0; i < hands; i++) {
            add(tokens, "hand " + handNames[i] + " skill " + upTo(9) + " ;");
        }
        for (int i = 0; i < upTo(12) && boats > 0 && hands > 0; i++) {
            add(tokens, "likes " + boatNames[random.nextInt(boats)] + " " + handNames[random.nextInt(hands)] + " " + upTo(random.nextBoolean() ? 3 : 99) + " ;");
        }
        int hour = upTo(9);
        for (int i = random.nextInt(30) == 0 ? 11 : upTo(4); i > 0; i--) {
            add(tokens, oneOf("calm", "rain", "fog", "storm") + " at " + hour + " ;");
            // out of their order, and seldom one twice
            hour = (hour + (random.nextInt(60) == 0 ? 0 : 37)) % 100;
        }
        for (String word : new String[] {"dread", "grows", "falls"}) {
            if (random.nextInt(4) != 0) {
                tokens.add(word);
                add(tokens, usualSum(word));
                tokens.add(";");
            }
        }
        for (int i = 0; i < upTo(2); i++) {
            add(tokens, "coax " + (1 + upTo(random.nextBoolean() ? 9 : 98)) + " ;");
        }
        for (int i = random.nextInt(40) == 0 ? 15 + upTo(25) : 0; i > 0; i--) {
            add(tokens, "coax 7 ;");
        }
        return tokens;
    }

    private String usualSum(String word) {
        if (random.nextInt(3) == 0) {
            return anySum(word.equals("dread") ? Chance.OF_DREAD : Chance.OF_TRUST);
        }
        if (word.equals("dread")) {
            return oneOf("depth * 10 + wreck * 9 + sky * 3 - skill - ahead * 6 - bold / 8 + balks", "home * 7 + depth * depth * 4 - bold / 3",
                "depth * 20 - home * 5 + wreck * 30 - ahead * bold / 2", "30 - home * 6 + depth * 11 - skill * 2",
                "( depth + wreck * 2 ) * ( 7 + sky ) - min ( bold , 20 ) + balks * 2", "50 - bold", "home * home * 3 + sky");
        }
        return oneOf("trust + 3", "trust - 2", "trust + fear / 2", "trust / 2", "trust + balks", "bold + ahead * 5 + trust / 2", "fear - sky",
            "max ( trust , bold ) + skill", "trust + 1 - wreck * 9", "99 - trust");
    }

    private String anySum(String[] words) {
        return spaced(new Chance(random, words).sum(0).text());
    }

    private static String spaced(String text) {
        return text.replaceAll("([^a-z0-9\\s])", " $1 ").trim().replaceAll("\\s+", " ");
    }

    private List<String> questionTokens() {
        Chance chance = new Chance(random, Chance.OF_CELL);
        boolean ofTests = random.nextBoolean();
        List<String> tokens = new ArrayList<>();
        tokens.add(ofTests ? oneOf("first", "last", "often") : oneOf("total", "most", "least"));
        add(tokens, spaced((ofTests ? chance.test(0) : chance.sum(0)).text()));
        return tokens;
    }

    /** Some tokens change, go, or come twice. */
    private List<String> spoiled(List<String> tokens) {
        for (int n = 1 + upTo(1); n > 0 && !tokens.isEmpty(); n--) {
            int at = random.nextInt(tokens.size());
            switch (random.nextInt(8)) {
                case 0: tokens.remove(at); break;
                case 1: tokens.add(at, oneOf(TOKENS)); break;
                case 2: tokens.add(at, tokens.get(random.nextInt(tokens.size()))); break;
                case 3: tokens.subList(at, tokens.size()).clear(); break;
                case 4: openMany(tokens, at); break;
                case 5: case 6: otherOfItsSort(tokens, at); break;
                default: tokens.set(at, oneOf(TOKENS)); break;
            }
        }
        return tokens;
    }

    /** For the next number another number, at its bounds or beyond them; or for the next NAME another NAME. */
    private void otherOfItsSort(List<String> tokens, int from) {
        boolean number = random.nextBoolean();
        for (int at = from; at < tokens.size(); at++) {
            String token = tokens.get(at);
            if (number && token.matches("[0-9]+")) {
                tokens.set(at, oneOf("0", "1", "2", "3", "4", "5", "6", "8", "9", "10", "99", "100", "0000", "00000"));
                return;
            }
            if (!number && at > 0 && tokens.get(at - 1).matches("boat|hand|likes|ann|b|first")) {
                tokens.set(at, oneOf("ann", "b", "first", "a", "mac", "x", "zzzzzzz", "at"));
                return;
            }
        }
    }

    /** Behind the next token with which a SUM or a TEST may begin, if there is one. */
    private void openMany(List<String> tokens, int from) {
        List<String> ahead = List.of("dread", "grows", "falls", "first", "last", "often", "total", "most", "least", "+", "-", "*", "/", "<", "=", "and");
        int at = from;
        while (at < tokens.size() - 1 && !ahead.contains(tokens.get(at))) {
            at++;
        }
        boolean ofTests = List.of("first", "last", "often", "and").contains(tokens.get(at));
        for (int n = 4 + upTo(4); n > 0; n--) {
            tokens.add(at + 1, oneOf(ofTests ? new String[] {"[", "not", "not"} : new String[] {"(", "(", "(", "boats"}));
        }
    }

    // ---- calls by chance

    /** The Model is asked for what to choose by: so all calls of the class are counted. */
    private int any() {
        int[] edges = {Integer.MIN_VALUE, Integer.MAX_VALUE, -2, 48, 64, 255, 256, 999, 1000};
        return random.nextInt(40) == 0 ? edges[random.nextInt(edges.length)] : random.nextInt(30) == 0 ? upTo(50) : upTo(7) - 1;
    }

    private int some(int count) {
        return count > 0 && random.nextInt(12) != 0 ? random.nextInt(count) : any();
    }

    private int boat() {
        return some(model.has(2));
    }

    private int cell() {
        return some(model.has(0) * model.has(1));
    }

    /** One beside the BOAT, as a rule. */
    private int near(int boat) {
        int at = model.boat(boat, 0);
        return at == -1 || random.nextInt(8) == 0 ? cell() : at + new int[] {-1, 1, model.has(0), -model.has(0)}[random.nextInt(4)];
    }

    private int group(int boat) {
        int bits = model.cell(model.boat(boat, 0), 3);
        return bits < 1 || random.nextInt(8) == 0 ? any() : random.nextBoolean() ? bits : bits & random.nextInt(64);
    }

    private void step() {
        switch (random.nextInt(6)) {
            case 0: tell(); break;
            case 1: ways(); break;
            case 2: company(); break;
            case 3: texts(); break;
            default: act(); break;
        }
    }

    private void tell() {
        int a = any();
        int b = any();
        int c = any();
        int boat = boat();
        int cell = cell();
        alike("has(" + a + ")", x.has(a), model.has(a));
        alike("has 6 to 11", x.has(6 + Math.floorMod(a, 6)), model.has(6 + Math.floorMod(a, 6)));
        alike("letter(" + c + ", " + a + ", " + b + ")", x.letter(c, a, b), model.letter(c, a, b));
        alike("boat(" + boat + ", " + b + ")", x.boat(boat, b), model.boat(boat, b));
        alike("cell(" + cell + ", " + b + ")", x.cell(cell, b), model.cell(cell, b));
        alike("hand(" + a + ", " + b + ")", x.hand(a, b), model.hand(a, b));
        alike("likes(" + boat + ", " + b + ")", x.likes(boat, b), model.likes(boat, b));
        int hour = random.nextBoolean() ? upTo(1010) - 5 : upTo(50);
        alike("sky(" + hour + ")", x.sky(hour), model.sky(hour));
        int k = upTo(42) - 1;
        alike("kept(" + k + ", " + b + ")", x.kept(k, b), model.kept(k, b));
        alike("status(" + a + ")", x.status(a), model.status(a));
        alike("fault(" + c + ")", x.fault(c), model.fault(c));
        alike("octet(" + k + ")", x.octet(k), model.octet(k));
    }

    private void ways() {
        int boat = boat();
        int cell = cell();
        int other = boat();
        int what = random.nextInt(6) == 0 ? any() : upTo(1);
        alike("dread(" + boat + ", " + cell + ", " + other + ")", x.dread(boat, cell, other), model.dread(boat, cell, other));
        alike("dread(" + boat + ", " + cell + ", -1)", x.dread(boat, cell, -1), model.dread(boat, cell, -1));
        for (int k = -1; k < 1 + upTo(3); k++) {
            alike("route(" + boat + ", " + cell + ", " + k + ")", x.route(boat, cell, k), model.route(boat, cell, k));
        }
        int step = any();
        alike("route(" + boat + ", " + cell + ", " + step + ")", x.route(boat, cell, step), model.route(boat, cell, step));
        alike("gentle(" + boat + ", " + cell + ", " + what + ")", x.gentle(boat, cell, what), model.gentle(boat, cell, what));
        alike("runs(" + boat + ", " + what + ")", x.runs(boat, what), model.runs(boat, what));
    }

    private void company() {
        int boat = boat();
        int cell = near(boat);
        int group = group(boat);
        int what = random.nextInt(6) == 0 ? any() : upTo(1);
        for (int k = -1; k < upTo(6); k++) {
            alike("order(" + group + ", " + cell + ", " + k + ")", x.order(group, cell, k), model.order(group, cell, k));
        }
        alike("lead(" + group + ", " + cell + ", " + what + ")", x.lead(group, cell, what), model.lead(group, cell, what));
        alike("match(" + boat + ")", x.match(boat), model.match(boat));
        alike("trusts(" + (what + 1) + ")", x.trusts(what + 1), model.trusts(what + 1));
        alike("trusts(" + what + ")", x.trusts(what), model.trusts(what));
        alike("next(" + what + ")", x.next(what), model.next(what));
    }

    private void texts() {
        int boat = boat();
        switch (random.nextInt(9)) {
            case 8:
                feedOn();
                break;
            case 0:
                put(bytesOf(join(random.nextInt(4) == 0 ? lakeTokens() : spoiled(lakeTokens()))));
                alike("lake()", x.lake(), model.lake());
                break;
            case 1: case 2:
                put(trialRows());
                alike("trials(" + boat + ")", x.trials(boat), model.trials(boat));
                break;
            case 3:
                alike("image()", x.image(), model.image());
                put(someImage());
                alike("on()", x.on(), model.on());
                break;
            default:
                put(bytesOf(join(random.nextBoolean() ? questionTokens() : spoiled(questionTokens()))));
                alike("ask(" + boat + ")", x.ask(boat), model.ask(boat));
                break;
        }
        alike("fault(0)", x.fault(0), model.fault(0));
        alike("fault(1)", x.fault(1), model.fault(1));
    }

    /** Feeds up to the bound or not, then cuts the tape, or tries to. */
    private void feedOn() {
        int size = 0;
        for (int n = random.nextInt(6) == 0 ? 81 : upTo(4); n > 0; n--) {
            size = model.feed(n, -n, n << 8, n << 16, n << 24);
            alike("feed(" + n + ")", x.feed(n, -n, n << 8, n << 16, n << 24), size);
        }
        int cut = random.nextInt(5) == 0 ? any() : random.nextInt(5) == 0 ? size + 1 : upTo(Math.max(0, size));
        alike("end(" + cut + ")", x.end(cut), model.end(cut));
        alike("status(0)", x.status(0), model.status(0));
    }

    private int[] trialRows() {
        int[] rows = new int[2 * (random.nextInt(20) == 0 ? upTo(22) : 1 + upTo(2)) + (random.nextInt(20) == 0 ? 1 : 0)];
        for (int i = 0; i < rows.length; i++) {
            rows[i] = i % 2 == 0 ? cell() & 255 : random.nextInt(40) == 0 ? 2 : upTo(1);
        }
        return rows;
    }

    /** As it is now, or with other bytes, mostly such as can be. */
    private int[] someImage() {
        int[] bytes = new int[6 + 4 * model.has(2) + (random.nextInt(30) == 0 ? 1 : 0)];
        int[] heads = {0, 3, 5, 9, 98, 99, 100, 255, 15, 66, 63, 64, 231, 232};
        for (int i = 0; i < bytes.length; i++) {
            bytes[i] = Math.max(0, model.octet(i));
            if (i < 5 && random.nextInt(4) == 0) {
                bytes[i] = heads[random.nextInt(i == 0 || i == 2 ? 3 : heads.length)];
            } else if (i >= 5 && random.nextInt(4) == 0) {
                int what = (i - 5) % 4;
                bytes[i] = what == 0 ? cell() & 255 : what == 3 ? upTo(model.has(3) + (upTo(20) == 0 ? 1 : 0)) : upTo(upTo(20) == 0 ? 120 : 99);
            }
        }
        boolean sealed = random.nextInt(20) != 0;
        return sealed ? Checks.sealed(Arrays.copyOf(bytes, bytes.length - 1)) : bytes;
    }

    private void act() {
        int boat = boat();
        int near = near(boat);
        int other = any();
        int n = random.nextInt(8) == 0 ? any() : 1 + upTo(random.nextInt(5) == 0 ? 210 : 9);
        switch (random.nextInt(12)) {
            case 0: case 1: case 2: case 3:
                alike("go(" + boat + ", " + near + ")", x.go(boat, near), model.go(boat, near));
                break;
            case 4: case 5:
                put(fileBytes(boat));
                alike("file(" + near + ")", x.file(near), model.file(near));
                break;
            case 6: alike("coax(" + boat + ", " + n + ")", x.coax(boat, n), model.coax(boat, n)); break;
            case 7: alike("man(" + boat + ", " + other + ")", x.man(boat, other), model.man(boat, other)); break;
            case 8: alike("hours(" + n + ")", x.hours(n), model.hours(n)); break;
            case 9: alike("drift(" + n + ")", x.drift(n), model.drift(n)); break;
            case 10:
                for (int k = random.nextInt(8) == 0 ? 21 : upTo(3); k >= 0; k--) {
                    alike("undo()", x.undo(), model.undo());
                }
                break;
            default:
                int seed = random.nextBoolean() ? random.nextInt() : other;
                alike("seed(" + seed + ")", x.seed(seed), model.seed(seed));
                break;
        }
        allOfIt();
    }

    private void allOfIt() {
        for (int i = 0; i < model.has(2); i++) {
            alike("cell of " + i, x.boat(i, 0), model.boat(i, 0));
            alike("trust of " + i, x.boat(i, 1), model.boat(i, 1));
        }
        int last = model.has(9) - 1;
        for (int what = 0; what < 4; what++) {
            alike("kept(" + last + ", " + what + ")", x.kept(last, what), model.kept(last, what));
        }
        alike("balks of all", x.has(7), model.has(7));
        alike("coins", x.has(6), model.has(6));
        alike("to be undone", x.has(11), model.has(11));
    }

    private int[] fileBytes(int boat) {
        List<Integer> boats = new ArrayList<>();
        int bits = group(boat);
        for (int i = 0; i < 8; i++) {
            if ((bits >> i & 1) == 1) {
                boats.add(random.nextInt(boats.size() + 1), i);
            }
        }
        if (random.nextInt(20) == 0) {
            boats.add(upTo(6));
        }
        return boats.stream().mapToInt(one -> one).toArray();
    }
}
