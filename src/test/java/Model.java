import java.util.ArrayDeque;
import java.util.ArrayList;
import java.util.Arrays;
import java.util.Deque;
import java.util.HashMap;
import java.util.HashSet;
import java.util.LinkedHashMap;
import java.util.List;
import java.util.Map;
import java.util.Set;
import java.util.TreeMap;
import java.util.function.IntPredicate;

/**
 * The document once more, written in another way than the class: the plainest lists and maps, every
 * row, way, matching and trust tried out, FILES by what an act would do to a copy. ModelTest has the
 * class answer beside it.
 */
final class Model {
    private static final int NONE = -1;
    private static final long NOTHING = -1000000000000000L;
    private static final Set<String> OWN = Set.of("lake", "row", "boat", "trust", "at", "hand", "skill", "likes", "calm", "rain",
        "fog", "storm", "dread", "grows", "falls", "coax", "depth", "wreck", "home", "sky", "balks", "ahead", "bold", "fear", "number",
        "across", "down", "boats", "or", "and", "not", "all", "min", "max");
    private static final List<String> SKIES = List.of("calm", "rain", "fog", "storm");
    private static final Set<String> OF_DREAD = Set.of("depth", "wreck", "home", "sky", "balks", "skill", "ahead", "bold");
    private static final Set<String> OF_TRUST = Set.of("depth", "wreck", "home", "sky", "balks", "skill", "ahead", "bold", "trust", "fear");
    private static final Set<String> OF_QUESTION = Set.of("number", "across", "down", "depth", "wreck", "home", "dread", "trust");

    /** What a SUM or a TEST (1, 0) is worth by the values of its words; "boats 5" is one of these, too. */
    private interface Worth {
        long of(Map<String, Long> words);
    }

    private static final class Fault extends RuntimeException {
        private static final long serialVersionUID = 1L;
        final int which;
        final int place;

        Fault(int which, int place) {
            this.which = which;
            this.place = place;
        }
    }

    private static final class Water {
        int columns;
        int statements;
        String cells = "";
        final List<String> boats = new ArrayList<>();
        final List<Integer> trusts = new ArrayList<>();
        final List<Integer> places = new ArrayList<>();
        final List<String> hands = new ArrayList<>();
        final List<Integer> skills = new ArrayList<>();
        final Map<String, Integer> liking = new HashMap<>();
        final TreeMap<Integer, Integer> weather = new TreeMap<>();
        final Map<String, Worth> sums = new HashMap<>();
        int coin = 5;
    }

    private static final class State {
        int hour;
        int coins;
        final List<int[]> boats = new ArrayList<>();
        final List<int[]> kept = new ArrayList<>();

        State copy() {
            State other = new State();
            other.hour = hour;
            other.coins = coins;
            boats.forEach(boat -> other.boats.add(boat.clone()));
            other.kept.addAll(kept);
            return other;
        }
    }

    /** Of a BOAT in a State: where, how it trusts, how often it balked, its HAND. */
    private static final int AT = 0;
    private static final int TRUST = 1;
    private static final int BALKS = 2;
    private static final int HAND = 3;

    private final List<Integer> tape = new ArrayList<>();
    private Water water = new Water();
    private State now = new State();
    private final Deque<State> past = new ArrayDeque<>();
    private long seed = 1;
    private int fault;
    private int place = NONE;
    private int trialBoat;
    private List<int[]> trials = List.of();
    private int[] picture = {};
    private final int[] refusals = new int[6];

    private int refuse(int kind) {
        refusals[kind]++;
        return NONE;
    }

    int feed(int a, int b, int c, int d, int e) {
        if (tape.size() + 20 > 1600) {
            return refuse(0);
        }
        for (int number : new int[] {a, b, c, d, e}) {
            tape.addAll(List.of(number >>> 24, number >>> 16 & 255, number >>> 8 & 255, number & 255));
        }
        return tape.size();
    }

    boolean end(int n) {
        if (n < 0 || n > tape.size()) {
            return refuse(0) != NONE;
        }
        tape.subList(n, tape.size()).clear();
        return true;
    }

    private List<Integer> takeTape() {
        List<Integer> taken = List.copyOf(tape);
        tape.clear();
        return taken;
    }

    // ---- texts

    /** A text, and how far it has been read. */
    private static final class Text {
        final String text;
        int at;
        /** Behind a word or a number, as long as nothing stands behind it that has been looked at. */
        private boolean behindWord;
        Set<String> words = Set.of();
        boolean question;

        Text(List<Integer> bytes) {
            StringBuilder all = new StringBuilder();
            bytes.forEach(octet -> all.append((char) (int) octet));
            text = all.toString();
        }

        private boolean is(int where, String regex) {
            return where < text.length() && text.substring(where, where + 1).matches(regex);
        }

        private int run(String regex) {
            int upTo = at;
            while (is(upTo, regex)) {
                upTo++;
            }
            return upTo;
        }

        /** By the blanks; a word or a number right behind another one is none that can stand there. */
        void blanks() {
            if (behindWord && is(at, "[a-z0-9]")) {
                throw new Fault(1, at);
            }
            behindWord = false;
            at = run("[\n ]");
        }

        boolean atEnd() {
            blanks();
            return at == text.length();
        }

        boolean see(char sign) {
            blanks();
            return at < text.length() && text.charAt(at) == sign;
        }

        void sign(char sign) {
            if (!see(sign)) {
                throw new Fault(1, at);
            }
            at++;
        }

        /** The word that stands here whole, none "". */
        String seeWord() {
            blanks();
            return text.substring(at, run("[a-z]"));
        }

        boolean take(String word) {
            if (!seeWord().equals(word)) {
                return false;
            }
            at += word.length();
            behindWord = true;
            return true;
        }

        void word(String word) {
            if (!take(word)) {
                throw new Fault(1, at);
            }
        }

        int number(IntPredicate possible) {
            blanks();
            int upTo = run("[0-9]");
            if (upTo == at) {
                throw new Fault(1, at);
            }
            if (upTo - at > 4) {
                throw new Fault(1, at + 4);
            }
            int number = Integer.parseInt(text.substring(at, upTo));
            if (!possible.test(number)) {
                throw new Fault(2, at);
            }
            at = upTo;
            behindWord = true;
            return number;
        }

        int number(int least, int most) {
            return number(n -> n >= least && n <= most);
        }

        String name(java.util.function.Predicate<String> fits) {
            String name = seeWord();
            if (name.isEmpty() || OWN.contains(name)) {
                throw new Fault(1, at);
            }
            if (name.length() > 6) {
                throw new Fault(1, at + 6);
            }
            if (!fits.test(name)) {
                throw new Fault(3, at);
            }
            take(name);
            return name;
        }

        private void opens(int open) {
            if (open == 6) {
                throw new Fault(4, at);
            }
        }

        Worth sum(int open) {
            Worth all = product(open);
            while (see('+') || see('-')) {
                boolean plus = text.charAt(at++) == '+';
                Worth left = all;
                Worth right = product(open);
                all = plus ? v -> bounded(left.of(v) + right.of(v)) : v -> bounded(left.of(v) - right.of(v));
            }
            return all;
        }

        private Worth product(int open) {
            Worth all = part(open);
            while (see('*') || see('/')) {
                boolean times = text.charAt(at++) == '*';
                Worth left = all;
                Worth right = part(open);
                all = times ? v -> bounded(left.of(v) * right.of(v)) : v -> quotient(left.of(v), right.of(v));
            }
            return all;
        }

        private Worth inBrackets(int open) {
            if (see('(')) {
                opens(open);
            }
            sign('(');
            return sum(open + 1);
        }

        private Worth part(int open) {
            String word = seeWord();
            if (is(at, "[0-9]")) {
                long number = number(0, 9999);
                return v -> number;
            }
            if (see('(')) {
                Worth inner = inBrackets(open);
                sign(')');
                return inner;
            }
            if (word.equals("min") || word.equals("max")) {
                take(word);
                Worth left = inBrackets(open);
                sign(',');
                Worth right = sum(open + 1);
                sign(')');
                return word.equals("min") ? v -> Math.min(left.of(v), right.of(v)) : v -> Math.max(left.of(v), right.of(v));
            }
            if (question && word.equals("boats")) {
                opens(open);
                take(word);
                Worth inner = part(open + 1);
                return v -> v.getOrDefault("boats " + inner.of(v), 0L);
            }
            if (!words.contains(word)) {
                throw new Fault(1, at);
            }
            take(word);
            return v -> v.get(word);
        }

        Worth test(int open) {
            Worth all = both(open);
            while (take("or")) {
                Worth left = all;
                Worth right = both(open);
                all = v -> left.of(v) == 1 || right.of(v) == 1 ? 1 : 0;
            }
            return all;
        }

        private Worth both(int open) {
            Worth all = fact(open);
            while (take("and")) {
                Worth left = all;
                Worth right = fact(open);
                all = v -> left.of(v) == 1 && right.of(v) == 1 ? 1 : 0;
            }
            return all;
        }

        private Worth fact(int open) {
            if (seeWord().equals("not")) {
                opens(open);
                take("not");
                Worth inner = fact(open + 1);
                return v -> 1 - inner.of(v);
            }
            if (see('[')) {
                opens(open);
                sign('[');
                Worth inner = test(open + 1);
                sign(']');
                return inner;
            }
            if (take("all")) {
                return v -> 1;
            }
            Worth left = sum(open);
            blanks();
            char how = is(at, "[<>=]") ? text.charAt(at) : '?';
            sign(how == '?' ? '=' : how);
            Worth right = sum(open);
            return v -> (how == '<' ? left.of(v) < right.of(v) : how == '>' ? left.of(v) > right.of(v) : left.of(v) == right.of(v)) ? 1 : 0;
        }
    }

    private static long bounded(long value) {
        return value > 1000000 ? 1000000 : value < -1000000 ? -1000000 : value;
    }

    private static long quotient(long a, long b) {
        if (b == 0) {
            return 0;
        }
        long whole = a / b;
        return whole * b != a && (a < 0) != (b < 0) ? whole - 1 : whole;
    }

    int lake() {
        Text text = new Text(takeTape());
        fault = 0;
        place = NONE;
        Water read = new Water();
        try {
            while (!text.atEnd()) {
                if (read.statements == 60) {
                    throw new Fault(5, text.at);
                }
                statement(text, read);
                text.sign(';');
                read.statements++;
            }
            if (read.statements == 0) {
                throw new Fault(1, text.at);
            }
        } catch (Fault found) {
            fault = found.which;
            place = found.place;
            return refuse(1);
        }
        water = read;
        now = new State();
        for (int boat = 0; boat < read.boats.size(); boat++) {
            now.boats.add(new int[] {read.places.get(boat), read.trusts.get(boat), 0, NONE});
        }
        past.clear();
        trials = List.of();
        return read.statements;
    }

    private static void statement(Text text, Water read) {
        String word = text.seeWord();
        boolean first = read.statements == 0;
        if (first != word.equals("lake")) {
            throw new Fault(1, text.at);
        }
        if (first) {
            text.take("lake");
            read.columns = text.number(3, 8);
            return;
        }
        Map<String, Boolean> full = new LinkedHashMap<>();
        full.put("row", read.cells.length() == 6 * read.columns);
        full.put("boat", read.boats.size() == 6);
        full.put("hand", read.hands.size() == 6);
        SKIES.forEach(sky -> full.put(sky, read.weather.size() == 10));
        for (String sum : new String[] {"dread", "grows", "falls"}) {
            full.put(sum, read.sums.containsKey(sum));
        }
        full.put("likes", false);
        full.put("coax", false);
        if (!full.containsKey(word)) {
            throw new Fault(1, text.at);
        }
        if (full.get(word)) {
            throw new Fault(5, text.at);
        }
        text.take(word);
        rest(word, text, read);
    }

    private static void rest(String word, Text text, Water read) {
        switch (word) {
            case "row":
                String cells = text.seeWord();
                if (!cells.matches("[hsdwl]+") || cells.length() != read.columns) {
                    throw new Fault(1, text.at);
                }
                text.take(cells);
                read.cells += cells;
                break;
            case "boat":
                String boat = text.name(name -> !read.boats.contains(name) && !read.hands.contains(name));
                text.word("trust");
                int trust = text.number(0, 99);
                text.word("at");
                int column = text.number(0, read.columns - 1);
                int row = text.number(n -> n < read.cells.length() / read.columns && read.cells.charAt(n * read.columns + column) == 'h');
                read.boats.add(boat);
                read.trusts.add(trust);
                read.places.add(row * read.columns + column);
                break;
            case "hand":
                String hand = text.name(name -> !read.boats.contains(name) && !read.hands.contains(name));
                text.word("skill");
                read.skills.add(text.number(0, 9));
                read.hands.add(hand);
                break;
            case "likes":
                String who = text.name(read.boats::contains);
                String whom = text.name(read.hands::contains);
                read.liking.put(who + " " + whom, text.number(0, 99));
                break;
            case "coax":
                read.coin = text.number(1, 99);
                break;
            case "dread": case "grows": case "falls":
                text.words = word.equals("dread") ? OF_DREAD : OF_TRUST;
                read.sums.put(word, text.sum(0));
                break;
            default:
                text.word("at");
                read.weather.put(text.number(n -> n <= 99 && !read.weather.containsKey(n)), SKIES.indexOf(word));
                break;
        }
    }

    int fault(int what) {
        return what == 0 ? fault : what == 1 ? place : NONE;
    }

    // ---- what there is

    private int skyAt(int hour) {
        Map.Entry<Integer, Integer> latest = water.weather.floorEntry(hour);
        return latest == null ? 0 : latest.getValue();
    }

    int has(int what) {
        int[] all = {water.columns, water.columns == 0 ? 0 : water.cells.length() / water.columns, water.boats.size(), water.hands.size(),
            now.hour, skyAt(now.hour), now.coins, now.boats.stream().mapToInt(boat -> boat[BALKS]).sum(),
            now.boats.stream().mapToInt(boat -> boat[TRUST]).sum(), told().size(), trials.size(), past.size()};
        return what < 0 || what >= all.length ? NONE : all[what];
    }

    private static boolean isIn(int which, int count) {
        return which >= 0 && which < count;
    }

    private boolean isBoat(int boat) {
        return isIn(boat, water.boats.size());
    }

    private boolean isHand(int hand) {
        return isIn(hand, water.hands.size());
    }

    private boolean isCell(int cell) {
        return isIn(cell, water.cells.length());
    }

    private boolean isWater(int cell) {
        return isCell(cell) && water.cells.charAt(cell) != 'l';
    }

    int letter(int kind, int which, int k) {
        List<String> names = kind == 0 ? water.boats : kind == 1 ? water.hands : List.of();
        if (!isIn(which, names.size()) || !isIn(k, 6)) {
            return NONE;
        }
        String name = names.get(which);
        return k < name.length() ? name.charAt(k) - 'a' + 1 : 0;
    }

    int boat(int boat, int what) {
        if (!isBoat(boat) || !isIn(what, 5)) {
            return NONE;
        }
        return what == 4 ? water.trusts.get(boat) : now.boats.get(boat)[what];
    }

    private int depthOf(int cell) {
        return Map.of('h', 0, 's', 1, 'd', 2, 'w', 2, 'l', 0).get(water.cells.charAt(cell));
    }

    private int homeOf(int cell) {
        int least = 99;
        for (int other = 0; other < water.cells.length(); other++) {
            if (water.cells.charAt(other) == 'h') {
                int across = Math.abs(other % water.columns - cell % water.columns);
                int down = Math.abs(other / water.columns - cell / water.columns);
                least = Math.min(least, across + down);
            }
        }
        return least;
    }

    private int boatsIn(State state, int cell) {
        int bits = 0;
        for (int boat = 0; boat < state.boats.size(); boat++) {
            bits += state.boats.get(boat)[AT] == cell ? 1 << boat : 0;
        }
        return bits;
    }

    int cell(int cell, int what) {
        if (!isCell(cell) || !isIn(what, 4)) {
            return NONE;
        }
        return new int[] {isWater(cell) ? depthOf(cell) : NONE, water.cells.charAt(cell) == 'w' ? 1 : 0, homeOf(cell), boatsIn(now, cell)}[what];
    }

    int hand(int hand, int what) {
        if (!isHand(hand) || !isIn(what, 2)) {
            return NONE;
        }
        int in = NONE;
        for (int boat = 0; boat < now.boats.size(); boat++) {
            in = now.boats.get(boat)[HAND] == hand ? boat : in;
        }
        return what == 0 ? water.skills.get(hand) : in;
    }

    int likes(int boat, int hand) {
        if (!isBoat(boat) || !isHand(hand)) {
            return NONE;
        }
        return water.liking.getOrDefault(water.boats.get(boat) + " " + water.hands.get(hand), 0);
    }

    int sky(int hour) {
        return isIn(hour, 1000) ? skyAt(hour) : NONE;
    }

    private List<int[]> told() {
        return now.kept.subList(Math.max(0, now.kept.size() - 40), now.kept.size());
    }

    int kept(int k, int what) {
        return isIn(k, told().size()) && isIn(what, 4) ? told().get(k)[what] : NONE;
    }

    // ---- dread, ways

    private Map<String, Long> wordsOf(State state, int boat, int cell, int ahead) {
        Map<String, Long> words = new HashMap<>();
        int[] one = state.boats.get(boat);
        words.put("depth", (long) depthOf(cell));
        words.put("wreck", water.cells.charAt(cell) == 'w' ? 1L : 0L);
        words.put("home", (long) homeOf(cell));
        words.put("sky", (long) skyAt(state.hour));
        words.put("balks", (long) one[BALKS]);
        words.put("skill", one[HAND] == NONE ? 0L : water.skills.get(one[HAND]));
        words.put("ahead", ahead == NONE ? 0L : 1L);
        words.put("bold", ahead == NONE ? 0L : state.boats.get(ahead)[TRUST]);
        words.put("trust", (long) one[TRUST]);
        return words;
    }

    private static int within(long value) {
        return value < 0 ? 0 : value > 99 ? 99 : (int) value;
    }

    private int dreadOf(State state, int boat, int cell, int ahead) {
        Worth sum = water.sums.get("dread");
        return sum == null ? 10 * depthOf(cell) : within(sum.of(wordsOf(state, boat, cell, ahead)));
    }

    private boolean tries(State state, int boat, int cell, int ahead) {
        int dread = dreadOf(state, boat, cell, ahead);
        int[] one = state.boats.get(boat);
        boolean goes = dread <= one[TRUST];
        Worth sum = water.sums.get(goes ? "grows" : "falls");
        if (sum != null) {
            Map<String, Long> words = wordsOf(state, boat, cell, ahead);
            words.put("fear", (long) dread);
            one[TRUST] = within(sum.of(words));
        }
        if (goes) {
            one[AT] = cell;
        } else {
            one[BALKS] = Math.min(99, one[BALKS] + 1);
        }
        state.kept.add(new int[] {state.hour, boat, cell, goes ? 1 : 0});
        return goes;
    }

    /** Up, right, down, left; NONE where none is, or land. */
    private int[] beside(int cell) {
        int across = cell % water.columns;
        int[] four = {cell - water.columns, across == water.columns - 1 ? NONE : cell + 1, cell + water.columns, across == 0 ? NONE : cell - 1};
        return Arrays.stream(four).map(other -> isWater(other) ? other : NONE).toArray();
    }

    private int[] firstFirst(int cell) {
        return Arrays.stream(beside(cell)).filter(other -> other != NONE).sorted().toArray();
    }

    int dread(int boat, int cell, int behind) {
        if (!isBoat(boat) || !isWater(cell) || behind != NONE && !isBoat(behind) || behind == boat) {
            return NONE;
        }
        return dreadOf(now, boat, cell, behind);
    }

    /** The first ways there of the fewest steps, all CELLS at once, over those that it dreads so much at most. */
    private Map<Integer, List<Integer>> waysOf(int boat, int most) {
        Map<Integer, List<Integer>> ways = new LinkedHashMap<>();
        ways.put(now.boats.get(boat)[AT], List.of());
        // these stand here in their order: by steps, then CELL by CELL
        List<Integer> found = new ArrayList<>(ways.keySet());
        for (int i = 0; i < found.size(); i++) {
            int from = found.get(i);
            for (int to : firstFirst(from)) {
                if (!ways.containsKey(to) && dreadOf(now, boat, to, NONE) <= most) {
                    List<Integer> way = new ArrayList<>(ways.get(from));
                    way.add(to);
                    ways.put(to, way);
                    found.add(to);
                }
            }
        }
        return ways;
    }

    int route(int boat, int cell, int k) {
        if (!isBoat(boat)) {
            return NONE;
        }
        List<Integer> way = waysOf(boat, now.boats.get(boat)[TRUST]).get(cell);
        if (way == null) {
            return NONE;
        }
        return k == NONE ? way.size() : isIn(k, way.size()) ? way.get(k) : NONE;
    }

    int gentle(int boat, int cell, int what) {
        if (!isBoat(boat) || !isIn(what, 2)) {
            return NONE;
        }
        for (int most = 0; most <= 99; most++) {
            if (waysOf(boat, most).containsKey(cell)) {
                int coins = 0;
                while (now.boats.get(boat)[TRUST] + coins * water.coin < most) {
                    coins++;
                }
                return what == 0 ? most : coins;
            }
        }
        return NONE;
    }

    int runs(int boat, int what) {
        if (!isBoat(boat) || !isIn(what, 2)) {
            return NONE;
        }
        int at = now.boats.get(boat)[AT];
        for (int steps = 0;; steps++) {
            int to = at;
            for (int other : firstFirst(at)) {
                to = dreadOf(now, boat, other, NONE) < dreadOf(now, boat, to, NONE) ? other : to;
            }
            if (to == at) {
                return what == 0 ? at : steps;
            }
            at = to;
        }
    }

    // ---- files, hands, trials

    private boolean canTry(List<Integer> boats, int cell) {
        if (boats.isEmpty() || new HashSet<>(boats).size() < boats.size() || !boats.stream().allMatch(this::isBoat)) {
            return false;
        }
        int at = now.boats.get(boats.get(0))[AT];
        return boats.stream().allMatch(boat -> now.boats.get(boat)[AT] == at)
            && cell != NONE && Arrays.stream(beside(at)).anyMatch(other -> other == cell);
    }

    private int sends(State state, List<Integer> row, int cell) {
        int ahead = NONE;
        int gone = 0;
        for (int boat : row) {
            if (tries(state, boat, cell, ahead)) {
                ahead = boat;
                gone++;
            }
        }
        return gone;
    }

    private static List<Integer> ofBits(int bits) {
        List<Integer> all = new ArrayList<>();
        for (int i = 0; i < 32; i++) {
            if ((bits >>> i & 1) == 1) {
                all.add(i);
            }
        }
        return all;
    }

    private static void rowsOf(List<Integer> begun, List<Integer> left, List<List<Integer>> rows) {
        if (left.isEmpty()) {
            rows.add(List.copyOf(begun));
        }
        for (Integer one : left) {
            List<Integer> more = new ArrayList<>(begun);
            more.add(one);
            List<Integer> others = new ArrayList<>(left);
            others.remove(one);
            rowsOf(more, others, rows);
        }
    }

    int order(int boats, int cell, int k) {
        List<Integer> some = ofBits(boats);
        if (!canTry(some, cell)) {
            return NONE;
        }
        List<List<Integer>> rows = new ArrayList<>();
        rowsOf(List.of(), some, rows);
        List<Integer> best = null;
        int most = NONE;
        for (List<Integer> row : rows) {
            int gone = sends(now.copy(), row, cell);
            if (gone > most) {
                most = gone;
                best = row;
            }
        }
        return k == NONE ? most : isIn(k, best.size()) ? best.get(k) : NONE;
    }

    int lead(int boats, int cell, int what) {
        List<Integer> some = ofBits(boats);
        if (!canTry(some, cell) || !isIn(what, 2)) {
            return NONE;
        }
        int best = NONE;
        int most = 0;
        for (int leader : some) {
            int gone = 0;
            for (int other : some) {
                State copy = now.copy();
                boolean goes = tries(copy, leader, cell, NONE);
                gone += goes && (other == leader || tries(copy, other, cell, leader)) ? 1 : 0;
            }
            if (gone > most) {
                most = gone;
                best = leader;
            }
        }
        return best == NONE ? NONE : what == 0 ? best : most;
    }

    /** Whether a BOAT would rather have one HAND than another one, or than none. */
    private boolean ratherHand(int boat, int hand, int other) {
        if (other == NONE || hand == other) {
            return other == NONE;
        }
        int more = likes(boat, hand) - likes(boat, other);
        return more > 0 || more == 0 && hand < other;
    }

    private boolean ratherBoat(int boat, int other) {
        if (other == NONE || boat == other) {
            return other == NONE;
        }
        int more = now.boats.get(boat)[TRUST] - now.boats.get(other)[TRUST];
        return more > 0 || more == 0 && boat < other;
    }

    private boolean holds(int[] matching) {
        for (int boat = 0; boat < matching.length; boat++) {
            for (int hand = 0; hand < water.hands.size(); hand++) {
                int holder = NONE;
                for (int other = 0; other < matching.length; other++) {
                    holder = matching[other] == hand ? other : holder;
                }
                if (ratherHand(boat, hand, matching[boat]) && ratherBoat(boat, holder)) {
                    return false;
                }
            }
        }
        return true;
    }

    private void matchings(int[] matching, int boat, List<int[]> all) {
        if (boat == matching.length) {
            if (holds(matching)) {
                all.add(matching.clone());
            }
            return;
        }
        for (int hand = NONE; hand < water.hands.size(); hand++) {
            boolean taken = false;
            for (int other = 0; other < boat; other++) {
                taken |= hand != NONE && matching[other] == hand;
            }
            if (!taken) {
                matching[boat] = hand;
                matchings(matching, boat + 1, all);
            }
        }
    }

    int match(int boat) {
        if (!isBoat(boat)) {
            return NONE;
        }
        List<int[]> all = new ArrayList<>();
        matchings(new int[water.boats.size()], 0, all);
        int best = all.get(0)[boat];
        for (int[] matching : all) {
            best = matching[boat] != NONE && ratherHand(boat, matching[boat], best) ? matching[boat] : best;
        }
        return best;
    }

    int trials(int boat) {
        List<Integer> bytes = takeTape();
        List<int[]> rows = new ArrayList<>();
        for (int i = 0; i + 1 < bytes.size(); i += 2) {
            rows.add(new int[] {bytes.get(i), bytes.get(i + 1)});
        }
        boolean good = isBoat(boat) && bytes.size() % 2 == 0 && !rows.isEmpty() && rows.size() <= 20
            && rows.stream().allMatch(row -> isWater(row[0]) && row[1] <= 1);
        if (!good) {
            return refuse(1);
        }
        trialBoat = boat;
        trials = rows;
        return rows.size();
    }

    private List<Integer> possibleTrusts() {
        List<Integer> all = new ArrayList<>();
        for (int trust = 0; trust <= 99; trust++) {
            int one = trust;
            if (trials.stream().allMatch(row -> (dreadOf(now, trialBoat, row[0], NONE) <= one) == (row[1] == 1))) {
                all.add(trust);
            }
        }
        return all;
    }

    int trusts(int what) {
        if (trials.isEmpty() || !isIn(what, 3)) {
            return NONE;
        }
        List<Integer> all = possibleTrusts();
        return what == 0 ? all.size() : all.isEmpty() ? NONE : what == 1 ? all.get(0) : all.get(all.size() - 1);
    }

    int next(int what) {
        if (trials.isEmpty() || !isIn(what, 2) || possibleTrusts().isEmpty()) {
            return NONE;
        }
        List<Integer> all = possibleTrusts();
        int best = NONE;
        int fewest = 1000;
        for (int cell = 0; cell < water.cells.length(); cell++) {
            if (isWater(cell)) {
                int dread = dreadOf(now, trialBoat, cell, NONE);
                int goes = (int) all.stream().filter(trust -> dread <= trust).count();
                if (Math.max(goes, all.size() - goes) < fewest) {
                    fewest = Math.max(goes, all.size() - goes);
                    best = cell;
                }
            }
        }
        return what == 0 ? best : fewest;
    }

    // ---- acts

    private void begin() {
        past.addLast(now.copy());
        if (past.size() > 20) {
            past.removeFirst();
        }
    }

    int go(int boat, int cell) {
        if (!canTry(List.of(boat), cell)) {
            return refuse(2);
        }
        begin();
        return tries(now, boat, cell, NONE) ? 1 : 0;
    }

    int file(int cell) {
        List<Integer> boats = takeTape();
        if (!canTry(boats, cell)) {
            return refuse(2);
        }
        begin();
        return sends(now, boats, cell);
    }

    int coax(int boat, int coins) {
        if (!isBoat(boat) || coins < 1 || coins > 99) {
            return refuse(3);
        }
        begin();
        now.coins = Math.min(999999, now.coins + coins);
        for (int i = 0; i < coins; i++) {
            now.boats.get(boat)[TRUST] = within(now.boats.get(boat)[TRUST] + water.coin);
        }
        return now.boats.get(boat)[TRUST];
    }

    boolean man(int boat, int hand) {
        if (!isBoat(boat) || hand != NONE && !isHand(hand) || now.boats.get(boat)[HAND] == hand) {
            return refuse(3) != NONE;
        }
        begin();
        for (int[] other : now.boats) {
            other[HAND] = other[HAND] == hand ? NONE : other[HAND];
        }
        now.boats.get(boat)[HAND] = hand;
        return true;
    }

    private boolean canPass(int n, int most) {
        return water.columns > 0 && n >= 1 && n <= most && now.hour + n <= 999;
    }

    int hours(int n) {
        if (!canPass(n, 200)) {
            return refuse(3);
        }
        begin();
        now.hour += n;
        return skyAt(now.hour);
    }

    int drift(int n) {
        if (!canPass(n, 50)) {
            return refuse(3);
        }
        begin();
        int gone = 0;
        for (int hour = 0; hour < n; hour++, now.hour++) {
            for (int boat = 0; boat < now.boats.size(); boat++) {
                seed = 1103515245L * seed + 12345L & (1L << 31) - 1;
                int cell = beside(now.boats.get(boat)[AT])[(int) (seed >> 6 & 3)];
                gone += cell != NONE && tries(now, boat, cell, NONE) ? 1 : 0;
            }
        }
        return gone;
    }

    boolean undo() {
        if (past.isEmpty()) {
            return refuse(4) != NONE;
        }
        now = past.removeLast();
        return true;
    }

    boolean seed(int number) {
        if (number < 0) {
            return refuse(5) != NONE;
        }
        seed = number;
        return true;
    }

    // ---- questions, images, refusals

    long ask(int boat) {
        List<Integer> bytes = takeTape();
        if (!isBoat(boat)) {
            return NOTHING;
        }
        fault = 0;
        place = NONE;
        Text text = new Text(bytes);
        text.words = OF_QUESTION;
        text.question = true;
        try {
            String verb = text.seeWord();
            boolean ofTests = List.of("first", "last", "often").contains(verb);
            if (!ofTests && !List.of("total", "most", "least").contains(verb)) {
                throw new Fault(1, text.at);
            }
            text.take(verb);
            Worth worth = ofTests ? text.test(0) : text.sum(0);
            if (!text.atEnd()) {
                throw new Fault(1, text.at);
            }
            return answer(verb, worth, boat);
        } catch (Fault found) {
            fault = found.which;
            place = found.place;
            return NOTHING;
        }
    }

    private long answer(String verb, Worth worth, int boat) {
        List<Long> all = new ArrayList<>();
        for (int cell = 0; cell < water.cells.length(); cell++) {
            Map<String, Long> words = wordsOf(now, boat, cell, NONE);
            words.put("number", (long) cell);
            words.put("across", (long) cell % water.columns);
            words.put("down", (long) cell / water.columns);
            words.put("dread", isWater(cell) ? dreadOf(now, boat, cell, NONE) : 99L);
            for (int[] other : now.boats) {
                words.merge("boats " + other[AT], 1L, Long::sum);
            }
            all.add(worth.of(words));
        }
        switch (verb) {
            case "first": return all.indexOf(1L);
            case "last": return all.lastIndexOf(1L);
            case "often": return all.stream().filter(one -> one == 1L).count();
            case "total": return all.stream().mapToLong(one -> one).sum();
            case "most": return all.stream().mapToLong(one -> one).max().orElse(0);
            default: return all.stream().mapToLong(one -> one).min().orElse(0);
        }
    }

    int image() {
        List<Integer> bytes = new ArrayList<>(List.of(now.hour >> 8, now.hour & 255, now.coins >> 16, now.coins >> 8 & 255, now.coins & 255));
        now.boats.forEach(boat -> bytes.addAll(List.of(boat[AT], boat[TRUST], boat[BALKS], boat[HAND] + 1)));
        picture = Checks.sealed(bytes.stream().mapToInt(octet -> octet).toArray());
        return picture.length;
    }

    int octet(int k) {
        return isIn(k, picture.length) ? picture[k] : NONE;
    }

    boolean on() {
        int[] bytes = takeTape().stream().mapToInt(octet -> octet).toArray();
        int boats = water.boats.size();
        boolean good = water.columns > 0 && bytes.length == 6 + 4 * boats
            && Arrays.equals(bytes, Checks.sealed(Arrays.copyOf(bytes, bytes.length - 1)));
        State told = new State();
        Set<Integer> hands = new HashSet<>();
        if (good) {
            told.hour = bytes[0] << 8 | bytes[1];
            told.coins = bytes[2] << 16 | bytes[3] << 8 | bytes[4];
            good = told.hour <= 999 && told.coins <= 999999;
        }
        for (int boat = 0; good && boat < boats; boat++) {
            int[] one = Arrays.copyOfRange(bytes, 5 + 4 * boat, 9 + 4 * boat);
            one[HAND]--;
            good = isWater(one[AT]) && one[TRUST] <= 99 && one[BALKS] <= 99
                && (one[HAND] == NONE || isHand(one[HAND]) && hands.add(one[HAND]));
            told.boats.add(one);
        }
        if (!good) {
            return refuse(5) != NONE;
        }
        now = told;
        past.clear();
        return true;
    }

    int status(int what) {
        return isIn(what, 6) ? refusals[what] : NONE;
    }
}
