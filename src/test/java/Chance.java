import java.util.Map;
import java.util.Random;

/** Lakes, SUMS and TESTS by chance, with their values reckoned while they are written. */
final class Chance {
    static final String[] OF_DREAD = {"depth", "wreck", "home", "sky", "balks", "skill", "ahead", "bold"};
    static final String[] OF_TRUST = {"depth", "wreck", "home", "sky", "balks", "skill", "ahead", "bold", "trust", "fear"};
    static final String[] OF_CELL = {"number", "across", "down", "depth", "wreck", "home", "dread", "trust"};

    /** A part of a text; what it is worth is told by the values of its words. */
    interface Part {
        long worth(Map<String, Integer> values);

        String text();
    }

    private record Leaf(String text, String word, int number) implements Part {
        public long worth(Map<String, Integer> values) {
            return word == null ? number : values.get(word);
        }
    }

    private record Two(String text, char how, Part left, Part right) implements Part {
        public long worth(Map<String, Integer> values) {
            long a = left.worth(values);
            long b = right.worth(values);
            switch (how) {
                case '+': return bounded(a + b);
                case '-': return bounded(a - b);
                case '*': return bounded(a * b);
                case '/': return b == 0 ? 0 : (long) Math.floor((double) a / (double) b);
                case 'm': return a < b ? a : b;
                case 'M': return a > b ? a : b;
                case '<': return a < b ? 1 : 0;
                case '>': return a > b ? 1 : 0;
                case '=': return a == b ? 1 : 0;
                case '&': return a != 0 && b != 0 ? 1 : 0;
                default: return a != 0 || b != 0 ? 1 : 0;
            }
        }
    }

    /** The same worth in other signs, or the other one of 0 and 1, or BOATS in a CELL. */
    private record One(String text, char how, Part inner) implements Part {
        public long worth(Map<String, Integer> values) {
            long a = inner.worth(values);
            if (how == '!') {
                return a == 0 ? 1 : 0;
            }
            return how == 'b' ? values.getOrDefault("boats " + a, 0) : a;
        }
    }

    final Random random;
    private final String[] words;
    private final boolean crowds;

    Chance(Random random, String[] words) {
        this.random = random;
        this.words = words;
        crowds = words == OF_CELL;
    }

    private static long bounded(long value) {
        return Math.max(-1000000, Math.min(1000000, value));
    }

    private String blank() {
        int n = random.nextInt(6);
        return n == 0 ? " " : n == 1 ? "\n " : "";
    }

    Part sum(int open) {
        Part all = product(open);
        while (random.nextInt(5) < 2) {
            Part more = product(open);
            char how = random.nextBoolean() ? '+' : '-';
            all = new Two(all.text() + blank() + how + blank() + more.text(), how, all, more);
        }
        return all;
    }

    private Part product(int open) {
        Part all = part(open);
        while (random.nextInt(4) < 1) {
            Part more = part(open);
            char how = random.nextBoolean() ? '*' : '/';
            all = new Two(all.text() + blank() + how + blank() + more.text(), how, all, more);
        }
        return all;
    }

    private Part part(int open) {
        int n = random.nextInt(9);
        if (open < 6 && n == 0) {
            Part inner = sum(open + 1);
            return new One("(" + blank() + inner.text() + blank() + ")", '(', inner);
        }
        if (open < 6 && n == 1) {
            Part left = sum(open + 1);
            Part right = sum(open + 1);
            boolean least = random.nextBoolean();
            String text = (least ? "min" : "max") + blank() + "(" + left.text() + "," + blank() + right.text() + ")";
            return new Two(text, least ? 'm' : 'M', left, right);
        }
        if (crowds && open < 6 && n == 2) {
            Part inner = part(open + 1);
            return new One("boats " + inner.text(), 'b', inner);
        }
        if (n < 5) {
            int number = random.nextInt(random.nextInt(4) == 0 ? 10000 : 20);
            return new Leaf(Integer.toString(number), null, number);
        }
        String word = words[random.nextInt(words.length)];
        return new Leaf(word, word, 0);
    }

    Part test(int open) {
        Part all = both(open);
        while (random.nextInt(4) < 1) {
            Part more = both(open);
            all = new Two(all.text() + " or " + more.text(), '|', all, more);
        }
        return all;
    }

    private Part both(int open) {
        Part all = fact(open);
        while (random.nextInt(4) < 1) {
            Part more = fact(open);
            all = new Two(all.text() + " and " + more.text(), '&', all, more);
        }
        return all;
    }

    private Part fact(int open) {
        int n = random.nextInt(8);
        if (open < 6 && n == 0) {
            Part inner = fact(open + 1);
            return new One("not " + inner.text(), '!', inner);
        }
        if (open < 6 && n == 1) {
            Part inner = test(open + 1);
            return new One("[" + blank() + inner.text() + "]", '[', inner);
        }
        if (n == 2 && random.nextBoolean()) {
            return new Leaf("all", null, 1);
        }
        Part left = sum(open);
        Part right = sum(open);
        char how = "<>=".charAt(random.nextInt(3));
        return new Two(left.text() + blank() + how + blank() + right.text(), how, left, right);
    }

    /** ROWS, BOATS in their harbours, HANDS, what BOATS like, weather: no SUMS. */
    static StringBuilder lake(Random random, int boats, int hands) {
        int columns = 3 + random.nextInt(6);
        int rows = 1 + random.nextInt(6);
        StringBuilder text = new StringBuilder("lake ").append(columns).append(';');
        int home = random.nextInt(columns * rows);
        for (int row = 0; row < rows; row++) {
            text.append("row ");
            for (int column = 0; column < columns; column++) {
                boolean harbour = row * columns + column == home;
                text.append(harbour ? 'h' : "hsssddddwl".charAt(random.nextInt(10)));
            }
            text.append(';');
        }
        for (int boat = 0; boat < boats; boat++) {
            text.append("boat ").append((char) ('a' + boat)).append(" trust ").append(random.nextInt(60));
            text.append(" at ").append(home % columns).append(' ').append(home / columns).append(';');
        }
        for (int hand = 0; hand < hands; hand++) {
            text.append("hand ").append((char) ('m' + hand)).append(" skill ").append(random.nextInt(10)).append(';');
        }
        for (int n = boats == 0 || hands == 0 ? 10 : 0; n < 10; n++) {
            text.append("likes ").append((char) ('a' + random.nextInt(boats))).append(' ');
            text.append((char) ('m' + random.nextInt(hands))).append(' ').append(random.nextInt(4)).append(';');
        }
        text.append("rain at ").append(random.nextInt(5)).append(";storm at ").append(5 + random.nextInt(9)).append(';');
        return text;
    }

    /** A usual dread, so that some go and some balk. */
    static String someDread(Random random) {
        String[] sums = {"", "dread depth*10+wreck*9+sky*3-skill-ahead*6-bold/8+balks;",
            "dread home*7+depth*depth*4-bold/3;",
            "dread depth*20-home*5+wreck*30-ahead*bold/2;", "dread 30-home*6+depth*11-skill*2;",
            "dread (depth+wreck*2)*(7+sky)-min(bold,20)+balks*2;"};
        return sums[random.nextInt(sums.length)];
    }

    static String someLearning(Random random) {
        String[] sums = {"", "grows trust+3;falls trust-2;", "grows trust+fear/2;falls trust/2;",
            "grows trust-1;", "falls trust+balks;", "grows bold+ahead*5+trust/2;falls fear-sky;"};
        return sums[random.nextInt(sums.length)];
    }
}
