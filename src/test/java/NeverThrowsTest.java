import java.util.Random;

/** Any calls in any order, with any numbers and texts: none throws, and the same ones answer the same. */
public final class NeverThrowsTest {
    private static final Checks CHECKS = new Checks();
    private static final String[] BITS = {"lake", "row", "boat", "trust", "at", "hand", "skill", "likes", "rain", "dread", "grows", "falls",
        "coax", "depth", "bold", "fear", "number", "boats", "or", "and", "not", "all", "min", "max", "first", "often", "total", "most",
        "(", ")", "[", "]", "+", "-", "*", "/", "<", "=", ",", ";", " ", "\n", "0", "3", "17", "9999", "a", "m", "hsd", "abcdefg", "\u00ff"};

    public static void main(String[] args) {
        for (int seed = 0; seed < 1500; seed++) {
            long once = run(new Random(seed));
            CHECKS.due("the same again", run(new Random(seed)), once);
        }
        CHECKS.finish();
    }

    private static int any(Random random) {
        int[] edges = {Integer.MIN_VALUE, Integer.MAX_VALUE, -2, -1, 63, 64, 255, 256, 999, 1000};
        return random.nextInt(8) == 0 ? edges[random.nextInt(edges.length)] : random.nextInt(14) - 1;
    }

    private static String text(Random random) {
        String lake = Chance.lake(random, random.nextInt(7), random.nextInt(7)) + Chance.someDread(random) + Chance.someLearning(random);
        String question = "often " + new Chance(random, Chance.OF_CELL).test(0).text();
        String text = random.nextInt(3) == 0 ? question : lake;
        if (random.nextInt(3) == 0) {
            int place = random.nextInt(text.length());
            int behind = Math.min(text.length(), place + random.nextInt(4));
            text = text.substring(0, place) + BITS[random.nextInt(BITS.length)] + text.substring(behind);
        }
        if (random.nextInt(20) == 0) {
            StringBuilder some = new StringBuilder(text.substring(0, Math.min(9, text.length())));
            while (some.length() < 1500) {
                some.append(BITS[random.nextInt(BITS.length)]).append(random.nextBoolean() ? " " : "");
            }
            text = some.toString();
        }
        return text.substring(0, Math.min(1600, text.length()));
    }

    private static void put(ShyBoats x, Random random) {
        x.end(0);
        switch (random.nextInt(4)) {
            case 0: Checks.text(x, text(random)); break;
            case 1: Checks.tape(x, random.ints(random.nextInt(8), 0, 7).toArray()); break;
            case 2: Checks.tape(x, Checks.imageOf(x)); break;
            default: x.feed(any(random), any(random), any(random), any(random), any(random)); break;
        }
    }

    private static long run(Random random) {
        ShyBoats x = new ShyBoats();
        long all = 0;
        if (random.nextInt(8) != 0) {
            all = Checks.lake(x, Chance.lake(random, 1 + random.nextInt(6), random.nextInt(7)) + Chance.someDread(random));
        }
        for (int n = 0; n < 200; n++) {
            all = all * 31 + call(x, random);
        }
        return all;
    }

    private static long call(ShyBoats x, Random random) {
        int a = any(random);
        int b = any(random);
        int c = any(random);
        switch (random.nextInt(36)) {
            case 0: return x.feed(a, b, c, a, b);
            case 1: return x.end(a) ? 1 : 0;
            case 2: put(x, random); return random.nextInt(4) == 0 ? x.lake() : 0;
            case 3: return x.fault(a);
            case 4: return x.has(a);
            case 5: return x.letter(a, b, c);
            case 6: return x.boat(a, b);
            case 7: return x.cell(a, b);
            case 8: return x.hand(a, b);
            case 9: return x.likes(a, b);
            case 10: return x.sky(a);
            case 11: return x.kept(a, b);
            case 12: return x.dread(a, b, c);
            case 13: return x.route(a, b, c);
            case 14: return x.gentle(a, b, c);
            case 15: return x.runs(a, b);
            case 16: return x.order(a, b, c);
            case 17: return x.lead(a, b, c);
            case 18: return x.match(a);
            case 19: put(x, random); return x.trials(a);
            case 20: return x.trusts(a);
            case 21: return x.next(a);
            case 22: case 23: return x.go(a, b);
            case 24: put(x, random); return x.file(a);
            case 25: return x.coax(a, b);
            case 26: return x.man(a, b) ? 1 : 0;
            case 27: return x.hours(a);
            case 28: return x.drift(a);
            case 29: return x.undo() ? 1 : 0;
            case 30: return x.seed(a) ? 1 : 0;
            case 31: put(x, random); return x.ask(a);
            case 32: return x.image();
            case 33: return x.octet(a);
            case 34: put(x, random); return x.on() ? 1 : 0;
            default: return x.status(a);
        }
    }
}
