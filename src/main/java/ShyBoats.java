import java.util.Arrays;

/**
 * Boats that fear water: a lake told as a text, boats that go where they dread no more than they
 * trust, and what can be asked and done there. No call ever throws, none makes a new object.
 */
public final class ShyBoats {
    public static final int NONE = -1;
    public static final long NOTHING = -1000000000000000L;

    private static final int MOST_BYTES = 1600;
    private static final int MOST_STATEMENTS = 60;
    private static final int MOST_COLUMNS = 8;
    private static final int MOST_ROWS = 6;
    private static final int MOST_CELLS = MOST_COLUMNS * MOST_ROWS;
    private static final int MOST_BOATS = 6;
    private static final int MOST_HANDS = 6;
    private static final int MOST_SKIES = 10;
    private static final int MOST_TRIALS = 20;
    private static final int MOST_KEPT = 40;
    private static final int MOST_UNDONE = 20;
    private static final int MOST_OPEN = 6;
    private static final int MOST_LETTERS = 6;
    private static final int MOST_DIGITS = 4;
    private static final int MOST_HOUR = 999;
    private static final int MOST_COINS = 999999;
    private static final int MOST_TRUST = 99;
    private static final int MOST_BALKS = 99;
    private static final int WAYS = 4;
    private static final int IMAGE_HEAD = 5;
    private static final int IMAGE_BOAT = 4;

    private static final int FAULT_TEXT = 1;
    private static final int FAULT_NUMBER = 2;
    private static final int FAULT_NAME = 3;
    private static final int FAULT_OPEN = 4;
    private static final int FAULT_MANY = 5;

    private static final int REFUSED_TAPE = 0;
    private static final int REFUSED_TEXT = 1;
    private static final int REFUSED_TRY = 2;
    private static final int REFUSED_ACT = 3;
    private static final int REFUSED_UNDO = 4;
    private static final int REFUSED_STATE = 5;
    private static final int REFUSED_KINDS = 6;

    /** The numbers below are the places of the words in this row; the first 34 are OWN WORDS. */
    private static final String WORDS = "lake row boat trust at hand skill likes calm rain fog storm dread grows falls coax depth wreck home sky balks ahead bold fear number across down boats or and not all min max first last often total most least ";
    private static final int LAKE = 0;
    private static final int ROW = 1;
    private static final int BOAT = 2;
    private static final int TRUST = 3;
    private static final int AT = 4;
    private static final int HAND = 5;
    private static final int SKILL = 6;
    private static final int LIKES = 7;
    private static final int CALM = 8;
    private static final int RAIN = 9;
    private static final int FOG = 10;
    private static final int STORM = 11;
    private static final int DREAD = 12;
    private static final int GROWS = 13;
    private static final int FALLS = 14;
    private static final int COAX = 15;
    private static final int DEPTH = 16;
    private static final int WRECK = 17;
    private static final int HOME = 18;
    private static final int SKY = 19;
    private static final int BALKS = 20;
    private static final int AHEAD = 21;
    private static final int BOLD = 22;
    private static final int FEAR = 23;
    private static final int NUMBER = 24;
    private static final int ACROSS = 25;
    private static final int DOWN = 26;
    private static final int BOATS = 27;
    private static final int OR = 28;
    private static final int AND = 29;
    private static final int NOT = 30;
    private static final int ALL = 31;
    private static final int MIN = 32;
    private static final int MAX = 33;
    private static final int OWN_WORDS = 34;
    private static final int FIRST = 34;
    private static final int LAST = 35;
    private static final int OFTEN = 36;
    private static final int TOTAL = 37;
    private static final int MOST = 38;
    private static final int LEAST = 39;
    private static final int ALL_WORDS = 40;

    private final Reader reader;
    private final Grammar grammar;
    private final Scribe scribe;
    private final Fleet fleet;
    private final Waters waters;
    private final Ways ways;
    private final Company company;
    private final Trials told;
    private final Code question;
    private final int[] picture;
    private final int[] refused;
    /** A faulty text must leave THE LAKE as it is: a text is read into this one, then they change places. */
    private Lake spare;
    private int pictureSize;
    private long drawn;

    public ShyBoats() {
        reader = new Reader();
        grammar = new Grammar(reader);
        scribe = new Scribe(reader, grammar);
        fleet = new Fleet();
        waters = new Waters(new Lake(), fleet);
        ways = new Ways(waters);
        company = new Company(waters);
        told = new Trials(waters);
        question = new Code();
        picture = new int[IMAGE_HEAD + IMAGE_BOAT * MOST_BOATS + 1];
        refused = new int[REFUSED_KINDS];
        spare = new Lake();
        pictureSize = 0;
        drawn = 1L;
    }

    public int feed(int a, int b, int c, int d, int e) {
        if (reader.size + 20 > MOST_BYTES) {
            return refuse(REFUSED_TAPE);
        }
        reader.write(a);
        reader.write(b);
        reader.write(c);
        reader.write(d);
        reader.write(e);
        return reader.size;
    }

    public boolean end(int n) {
        if (n < 0 || n > reader.size) {
            refuse(REFUSED_TAPE);
            return false;
        }
        reader.size = n;
        return true;
    }

    public int lake() {
        boolean good = scribe.readLake(spare);
        reader.size = 0;
        if (!good) {
            return refuse(REFUSED_TEXT);
        }
        Lake old = waters.lake;
        waters.lake = spare;
        spare = old;
        fleet.begin(waters.lake);
        told.count = 0;
        return waters.lake.statements;
    }

    public int fault(int what) {
        switch (what) {
            case 0: return reader.fault;
            case 1: return reader.place;
            default: return NONE;
        }
    }

    public int has(int what) {
        Lake lake = waters.lake;
        switch (what) {
            case 0: return lake.columns;
            case 1: return lake.rows;
            case 2: return lake.boats;
            case 3: return lake.hands;
            case 4: return fleet.hour();
            case 5: return lake.skyAt(fleet.hour());
            case 6: return fleet.coins();
            case 7: return fleet.allBalks();
            case 8: return fleet.allTrust();
            case 9: return fleet.tellable();
            case 10: return told.count;
            case 11: return fleet.undoable;
            default: return NONE;
        }
    }

    public int letter(int kind, int which, int k) {
        if (k < 0 || k >= MOST_LETTERS) {
            return NONE;
        }
        if (kind == 0 && waters.lake.isBoat(which)) {
            return letterOf(waters.lake.boatNames[which], k);
        }
        if (kind == 1 && waters.lake.isHand(which)) {
            return letterOf(waters.lake.handNames[which], k);
        }
        return NONE;
    }

    public int boat(int boat, int what) {
        if (!waters.lake.isBoat(boat)) {
            return NONE;
        }
        switch (what) {
            case 0: return fleet.cellOf(boat);
            case 1: return fleet.trustOf(boat);
            case 2: return fleet.balksOf(boat);
            case 3: return fleet.handOf(boat);
            case 4: return waters.lake.firstTrusts[boat];
            default: return NONE;
        }
    }

    public int cell(int cell, int what) {
        Lake lake = waters.lake;
        if (!lake.isCell(cell)) {
            return NONE;
        }
        switch (what) {
            case 0: return lake.isLand(cell) ? NONE : lake.depthOf(cell);
            case 1: return lake.wreckIn(cell);
            case 2: return lake.homeOf(cell);
            case 3: return fleet.bitsIn(cell);
            default: return NONE;
        }
    }

    public int hand(int hand, int what) {
        if (!waters.lake.isHand(hand)) {
            return NONE;
        }
        switch (what) {
            case 0: return waters.lake.skillOf(hand);
            case 1: return fleet.boatOf(hand);
            default: return NONE;
        }
    }

    public int likes(int boat, int hand) {
        if (!waters.lake.isBoat(boat) || !waters.lake.isHand(hand)) {
            return NONE;
        }
        return waters.lake.likingOf(boat, hand);
    }

    public int sky(int hour) {
        if (hour < 0 || hour > MOST_HOUR) {
            return NONE;
        }
        return waters.lake.skyAt(hour);
    }

    public int kept(int k, int what) {
        if (k < 0 || k >= fleet.tellable()) {
            return NONE;
        }
        return fleet.tell(k, what);
    }

    // ---- dread, ways

    public int dread(int boat, int cell, int behind) {
        Lake lake = waters.lake;
        if (!lake.isBoat(boat) || !lake.isWater(cell) || behind == boat) {
            return NONE;
        }
        if (behind == NONE) {
            return waters.fearOf(boat, cell, NONE);
        }
        if (!lake.isBoat(behind)) {
            return NONE;
        }
        return waters.fearOf(boat, cell, fleet.trustOf(behind));
    }

    public int route(int boat, int cell, int k) {
        if (!waters.lake.isBoat(boat) || !waters.lake.isWater(cell) || k < NONE) {
            return NONE;
        }
        int steps = ways.findRoute(boat, cell);
        if (k == NONE) {
            return steps;
        }
        return k < steps && k < MOST_CELLS ? ways.row[k] : NONE;
    }

    public int gentle(int boat, int cell, int what) {
        if (!waters.lake.isBoat(boat) || !waters.lake.isWater(cell)) {
            return NONE;
        }
        int fear = ways.gentlest(boat, cell);
        if (fear == NONE) {
            return NONE;
        }
        switch (what) {
            case 0: return fear;
            case 1: return waters.coinsUpTo(boat, fear);
            default: return NONE;
        }
    }

    public int runs(int boat, int what) {
        if (!waters.lake.isBoat(boat)) {
            return NONE;
        }
        int steps = ways.runAway(boat);
        switch (what) {
            case 0: return ways.shelter;
            case 1: return steps;
            default: return NONE;
        }
    }

    // ---- files, hands, trials

    public int order(int boats, int cell, int k) {
        if (!company.canTry(boats, cell) || k < NONE) {
            return NONE;
        }
        int gone = company.sort(boats, cell);
        if (k == NONE) {
            return gone;
        }
        return k < Integer.bitCount(boats) && k < MOST_BOATS ? company.best[k] : NONE;
    }

    public int lead(int boats, int cell, int what) {
        if (!company.canTry(boats, cell)) {
            return NONE;
        }
        int leader = company.findLeader(boats, cell);
        if (leader == NONE) {
            return NONE;
        }
        switch (what) {
            case 0: return leader;
            case 1: return company.followed;
            default: return NONE;
        }
    }

    public int match(int boat) {
        if (!waters.lake.isBoat(boat)) {
            return NONE;
        }
        return company.matchedHand(boat);
    }

    public int trials(int boat) {
        boolean good = told.read(boat, reader.bytes, reader.size);
        reader.size = 0;
        return good ? told.count : refuse(REFUSED_TEXT);
    }

    public int trusts(int what) {
        if (told.count == 0) {
            return NONE;
        }
        int many = told.findTrusts();
        switch (what) {
            case 0: return many;
            case 1: return many > 0 ? told.least : NONE;
            case 2: return many > 0 ? told.greatest : NONE;
            default: return NONE;
        }
    }

    public int next(int what) {
        if (told.count == 0 || told.findTrusts() == 0) {
            return NONE;
        }
        int cell = told.findNext();
        switch (what) {
            case 0: return cell;
            case 1: return told.alike;
            default: return NONE;
        }
    }

    // ---- acts

    public int go(int boat, int cell) {
        if (!waters.lake.isBoat(boat) || !waters.lake.isBeside(fleet.cellOf(boat), cell)) {
            return refuse(REFUSED_TRY);
        }
        fleet.remember();
        return waters.attempt(boat, cell, NONE);
    }

    public int file(int cell) {
        int size = reader.size;
        reader.size = 0;
        if (!company.canTry(bitsOfTape(size), cell)) {
            return refuse(REFUSED_TRY);
        }
        fleet.remember();
        return company.sendFile(reader.bytes, size, cell);
    }

    public int coax(int boat, int coins) {
        if (!waters.lake.isBoat(boat) || coins < 1 || coins > 99) {
            return refuse(REFUSED_ACT);
        }
        fleet.remember();
        fleet.pay(coins);
        fleet.setTrust(boat, Math.min(MOST_TRUST, fleet.trustOf(boat) + coins * waters.lake.coin));
        return fleet.trustOf(boat);
    }

    public boolean man(int boat, int hand) {
        Lake lake = waters.lake;
        boolean known = lake.isBoat(boat) && (hand == NONE || lake.isHand(hand));
        if (!known || fleet.handOf(boat) == hand) {
            refuse(REFUSED_ACT);
            return false;
        }
        fleet.remember();
        fleet.crew(boat, hand);
        return true;
    }

    public int hours(int n) {
        if (!canPass(n, 200)) {
            return refuse(REFUSED_ACT);
        }
        fleet.remember();
        fleet.passHours(n);
        return waters.lake.skyAt(fleet.hour());
    }

    public int drift(int n) {
        if (!canPass(n, 50)) {
            return refuse(REFUSED_ACT);
        }
        fleet.remember();
        int gone = 0;
        for (int hour = 0; hour < n; hour++) {
            for (int boat = 0; boat < waters.lake.boats; boat++) {
                gone += driftOnce(boat);
            }
            fleet.passHours(1);
        }
        return gone;
    }

    public boolean undo() {
        if (!fleet.goBack()) {
            refuse(REFUSED_UNDO);
            return false;
        }
        return true;
    }

    public boolean seed(int seed) {
        if (seed < 0) {
            refuse(REFUSED_STATE);
            return false;
        }
        drawn = seed;
        return true;
    }

    // ---- questions

    public long ask(int boat) {
        if (!waters.lake.isBoat(boat)) {
            reader.size = 0;
            return NOTHING;
        }
        question.clear();
        int verb = grammar.readQuestion(question);
        reader.size = 0;
        return verb == NONE ? NOTHING : answer(verb, boat);
    }

    // ---- images, refusals

    public int image() {
        int hour = fleet.hour();
        int coins = fleet.coins();
        pictureSize = 0;
        draw(hour / 256);
        draw(hour % 256);
        draw(coins / 65536);
        draw(coins / 256 % 256);
        draw(coins % 256);
        for (int boat = 0; boat < waters.lake.boats; boat++) {
            draw(fleet.cellOf(boat));
            draw(fleet.trustOf(boat));
            draw(fleet.balksOf(boat));
            draw(fleet.handOf(boat) + 1);
        }
        draw(sealOf(picture, pictureSize));
        return pictureSize;
    }

    public int octet(int k) {
        return k >= 0 && k < pictureSize && k < picture.length ? picture[k] : NONE;
    }

    public boolean on() {
        int size = reader.size;
        reader.size = 0;
        if (waters.lake.isNone() || !isImage(reader.bytes, size)) {
            refuse(REFUSED_STATE);
            return false;
        }
        fleet.forget();
        fleet.take(reader.bytes);
        return true;
    }

    public int status(int what) {
        return what >= 0 && what < REFUSED_KINDS ? refused[what] : NONE;
    }

    private int refuse(int kind) {
        if (kind >= 0 && kind < REFUSED_KINDS) {
            refused[kind]++;
        }
        return NONE;
    }

    private static int letterOf(int name, int k) {
        return name >> 5 * (MOST_LETTERS - 1 - k) & 31;
    }

    /** The BOATS on the tape as bits; 0, which no FILE is, if one is there twice or is none. */
    private int bitsOfTape(int size) {
        int bits = 0;
        for (int i = 0; i < size && i < MOST_BYTES; i++) {
            int boat = reader.bytes[i];
            if (!waters.lake.isBoat(boat) || (bits >> boat & 1) == 1) {
                return 0;
            }
            bits |= 1 << boat;
        }
        return bits;
    }

    /** HOURS that would end behind the last one can't be, and none of them goes by. */
    private boolean canPass(int hours, int most) {
        return !waters.lake.isNone() && hours >= 1 && hours <= most && fleet.hour() + hours <= MOST_HOUR;
    }

    private int driftOnce(int boat) {
        drawn = (1103515245L * drawn + 12345L) % 2147483648L;
        int way = (int) (drawn / 64L % WAYS);
        int cell = waters.lake.stepFrom(fleet.cellOf(boat), way);
        return cell == NONE ? 0 : waters.attempt(boat, cell, NONE);
    }

    private long answer(int verb, int boat) {
        int many = 0;
        int first = NONE;
        int last = NONE;
        long total = 0L;
        long most = 0L;
        long least = 0L;
        waters.countCrowds();
        for (int cell = 0; cell < waters.lake.cells(); cell++) {
            long got = waters.answerFor(question, boat, cell);
            most = cell == 0 ? got : Math.max(most, got);
            least = cell == 0 ? got : Math.min(least, got);
            total += got;
            if (got != 0L) {
                many++;
                first = first == NONE ? cell : first;
                last = cell;
            }
        }
        switch (verb) {
            case FIRST: return first;
            case LAST: return last;
            case OFTEN: return many;
            case TOTAL: return total;
            case MOST: return most;
            case LEAST: return least;
            default: return NOTHING;
        }
    }

    private void draw(int octet) {
        if (pictureSize >= 0 && pictureSize < picture.length) {
            picture[pictureSize] = octet;
            pictureSize++;
        }
    }

    private static int sealOf(int[] bytes, int size) {
        int seal = 241;
        for (int i = 0; i < size && i < bytes.length; i++) {
            seal = (3 * seal + bytes[i]) % 251;
        }
        return seal;
    }

    private boolean isImage(int[] bytes, int size) {
        int body = IMAGE_HEAD + IMAGE_BOAT * waters.lake.boats;
        if (size != body + 1 || size > bytes.length || bytes[body] != sealOf(bytes, body)) {
            return false;
        }
        if (Fleet.hourIn(bytes) > MOST_HOUR || Fleet.coinsIn(bytes) > MOST_COINS) {
            return false;
        }
        int hands = 0;
        for (int boat = 0; boat < waters.lake.boats; boat++) {
            int at = IMAGE_HEAD + IMAGE_BOAT * boat;
            int hand = bytes[at + 3];
            boolean possible = waters.lake.isWater(bytes[at]) && bytes[at + 1] <= MOST_TRUST
                && bytes[at + 2] <= MOST_BALKS && hand <= waters.lake.hands;
            if (!possible || hand > 0 && (hands >> hand & 1) == 1) {
                return false;
            }
            hands |= 1 << hand;
        }
        return true;
    }

    private static int inTrust(int value) {
        return Math.max(0, Math.min(MOST_TRUST, value));
    }

    /** The tape, and what stands on it, word by word. */
    private static final class Reader {
        /** Kinds of what stands next; a sign is its own kind, and no byte is below 0. */
        static final int END = -1;
        static final int WORD = -2;
        static final int DIGITS = -3;
        static final int JOINED = -4;

        final int[] bytes = new int[MOST_BYTES];
        final int[] words = new int[ALL_WORDS];
        int size;
        int kind;
        int start;
        int stop;
        /** Which of WORDS stands next, NONE if it is none of them. */
        int word;
        /** The word's letters, 5 bits each, the first highest; 0 if they are too many for a NAME. */
        int letters;
        int fault;
        int place;

        Reader() {
            size = 0;
            kind = END;
            fault = 0;
            place = NONE;
            int which = 0;
            int length = 0;
            for (int i = 0; i < WORDS.length() && which < ALL_WORDS; i++) {
                char sign = WORDS.charAt(i);
                if (sign == ' ') {
                    words[which] <<= 5 * (MOST_LETTERS - length);
                    which++;
                    length = 0;
                } else {
                    words[which] = words[which] << 5 | sign - 'a' + 1;
                    length++;
                }
            }
        }

        void write(int four) {
            for (int shift = 24; shift >= 0; shift -= 8) {
                if (size >= 0 && size < MOST_BYTES) {
                    bytes[size] = four >> shift & 255;
                    size++;
                }
            }
        }

        void rewind() {
            kind = END;
            start = 0;
            stop = 0;
            fault = 0;
            place = NONE;
            move();
        }

        void move() {
            int at = stop;
            while (at >= 0 && at < size && at < MOST_BYTES && isBlank(bytes[at])) {
                at++;
            }
            boolean joined = at == stop && (kind == WORD || kind == DIGITS);
            start = at;
            stop = at;
            kind = END;
            if (at >= 0 && at < size && at < MOST_BYTES) {
                kind = kindOf(bytes[at]);
                stop = at + 1;
            }
            boolean many = kind == WORD || kind == DIGITS;
            while (many && stop < size && stop < MOST_BYTES && kindOf(bytes[stop]) == kind) {
                stop++;
            }
            readWord();
            if (joined && many) {
                kind = JOINED;
            }
        }

        private void readWord() {
            letters = 0;
            word = NONE;
            if (kind != WORD || stop - start > MOST_LETTERS) {
                return;
            }
            for (int at = start; at < start + MOST_LETTERS; at++) {
                boolean behind = at < 0 || at >= stop || at >= MOST_BYTES;
                letters = letters << 5 | (behind ? 0 : bytes[at] - 'a' + 1);
            }
            for (int i = 0; i < ALL_WORDS; i++) {
                word = words[i] == letters ? i : word;
            }
        }

        private int numberHere() {
            int number = 0;
            for (int at = start; at >= 0 && at < stop && at < MOST_BYTES; at++) {
                number = number * 10 + bytes[at] - '0';
            }
            return number;
        }

        boolean fail(int which, int where) {
            fault = which;
            place = where;
            return false;
        }

        boolean failHere(int which) {
            return fail(which, start);
        }

        boolean isWord(int which) {
            return kind == WORD && word == which;
        }

        boolean takeWord(int which) {
            if (!isWord(which)) {
                return failHere(FAULT_TEXT);
            }
            move();
            return true;
        }

        boolean takeSign(int sign) {
            if (kind != sign) {
                return failHere(FAULT_TEXT);
            }
            move();
            return true;
        }

        /** A number is asked: that number; NONE with a FAULT. */
        int takeNumber(int least, int most) {
            if (kind != DIGITS) {
                failHere(FAULT_TEXT);
                return NONE;
            }
            if (stop - start > MOST_DIGITS) {
                fail(FAULT_TEXT, start + MOST_DIGITS);
                return NONE;
            }
            int number = numberHere();
            if (number < least || number > most) {
                failHere(FAULT_NUMBER);
                return NONE;
            }
            move();
            return number;
        }

        /** A NAME is asked, and not yet gone by, as whether it fits is asked at its first byte. */
        boolean isAtName() {
            if (kind != WORD) {
                return failHere(FAULT_TEXT);
            }
            if (stop - start > MOST_LETTERS) {
                return fail(FAULT_TEXT, start + MOST_LETTERS);
            }
            if (word != NONE && word < OWN_WORDS) {
                return failHere(FAULT_TEXT);
            }
            return true;
        }

        private static boolean isBlank(int sign) {
            return sign == 10 || sign == 32;
        }

        private static int kindOf(int sign) {
            if (sign >= 'a' && sign <= 'z') {
                return WORD;
            }
            return sign >= '0' && sign <= '9' ? DIGITS : sign;
        }
    }

    /**
     * SUMS and TESTS as rows for a stack, so that none is read twice: a number is itself; a word
     * or a sign is ~ it (signs are above all numbers of words).
     */
    private static final class Code {
        static final int PARTS = 3;

        final int[] row = new int[MOST_BYTES];
        final int[] from = new int[PARTS];
        final int[] upTo = new int[PARTS];
        int size;

        Code() {
            size = 0;
        }

        void clear() {
            size = 0;
            Arrays.fill(from, 0);
            Arrays.fill(upTo, 0);
        }

        void add(int step) {
            if (size >= 0 && size < MOST_BYTES) {
                row[size] = step;
                size++;
            }
        }

        void open(int part) {
            if (part >= 0 && part < PARTS) {
                from[part] = size;
                upTo[part] = size;
            }
        }

        void close(int part) {
            if (part >= 0 && part < PARTS) {
                upTo[part] = size;
            }
        }

        boolean isTold(int part) {
            return part >= 0 && part < PARTS && upTo[part] > from[part];
        }
    }

    /** Reads SUMS and TESTS into a Code. What is open at once goes along as an argument. */
    private static final class Grammar {
        private static final long OF_A_CELL = 1L << DEPTH | 1L << WRECK | 1L << HOME;
        static final long IN_DREAD = OF_A_CELL | 1L << SKY | 1L << BALKS | 1L << SKILL | 1L << AHEAD | 1L << BOLD;
        static final long IN_TRUST = IN_DREAD | 1L << TRUST | 1L << FEAR;
        static final long IN_QUESTION = OF_A_CELL | 1L << NUMBER | 1L << ACROSS | 1L << DOWN
            | 1L << DREAD | 1L << TRUST | 1L << BOATS;

        private final Reader reader;
        private Code code;
        /** Which words may be a PART, as bits. */
        private long known;

        Grammar(Reader reader) {
            this.reader = reader;
            code = null;
            known = 0L;
        }

        /** The word that stands here, then a SUM of such words. */
        boolean readInto(Code target, int part, long words) {
            if (target == null) {
                return false;
            }
            code = target;
            known = words;
            reader.move();
            target.open(part);
            boolean good = readSum(0);
            target.close(part);
            return good;
        }

        /** The first word of a QUESTION; NONE with a FAULT. */
        int readQuestion(Code target) {
            reader.rewind();
            if (target == null || reader.kind != Reader.WORD || reader.word < FIRST) {
                reader.failHere(FAULT_TEXT);
                return NONE;
            }
            int verb = reader.word;
            boolean ofTests = verb == FIRST || verb == LAST || verb == OFTEN;
            code = target;
            known = IN_QUESTION;
            reader.move();
            target.open(0);
            boolean good = ofTests ? readTest(0) : readSum(0);
            target.close(0);
            return good && reader.takeSign(Reader.END) ? verb : NONE;
        }

        private boolean readTest(int open) {
            boolean good = readBoth(open);
            for (int n = 0; n < MOST_BYTES && good && reader.isWord(OR); n++) {
                reader.move();
                good = readBoth(open);
                put(OR);
            }
            return good;
        }

        private boolean readBoth(int open) {
            boolean good = readFact(open);
            for (int n = 0; n < MOST_BYTES && good && reader.isWord(AND); n++) {
                reader.move();
                good = readFact(open);
                put(AND);
            }
            return good;
        }

        private boolean readFact(int open) {
            if (reader.isWord(NOT)) {
                boolean good = openOne(open) && readFact(open + 1);
                put(NOT);
                return good;
            }
            if (reader.kind == '[') {
                return openOne(open) && readTest(open + 1) && reader.takeSign(']');
            }
            if (reader.isWord(ALL)) {
                putNumber(1);
                reader.move();
                return true;
            }
            return readComparison(open);
        }

        private boolean readComparison(int open) {
            if (!readSum(open)) {
                return false;
            }
            int sign = reader.kind;
            if (sign != '<' && sign != '>' && sign != '=') {
                return reader.failHere(FAULT_TEXT);
            }
            reader.move();
            boolean good = readSum(open);
            put(sign);
            return good;
        }

        private boolean readSum(int open) {
            boolean good = readProduct(open);
            for (int n = 0; n < MOST_BYTES && good && (reader.kind == '+' || reader.kind == '-'); n++) {
                int sign = reader.kind;
                reader.move();
                good = readProduct(open);
                put(sign);
            }
            return good;
        }

        private boolean readProduct(int open) {
            boolean good = readPart(open);
            for (int n = 0; n < MOST_BYTES && good && (reader.kind == '*' || reader.kind == '/'); n++) {
                int sign = reader.kind;
                reader.move();
                good = readPart(open);
                put(sign);
            }
            return good;
        }

        private boolean readPart(int open) {
            if (reader.kind == Reader.DIGITS) {
                int number = reader.takeNumber(0, 9999);
                putNumber(number);
                return number != NONE;
            }
            if (reader.kind == '(') {
                return openOne(open) && readSum(open + 1) && reader.takeSign(')');
            }
            if (reader.kind != Reader.WORD) {
                return reader.failHere(FAULT_TEXT);
            }
            if (reader.word == MIN || reader.word == MAX) {
                return readPair(open);
            }
            return readWord(open);
        }

        private boolean readPair(int open) {
            int word = reader.word;
            reader.move();
            if (reader.kind != '(') {
                return reader.failHere(FAULT_TEXT);
            }
            boolean good = openOne(open) && readSum(open + 1) && reader.takeSign(',')
                && readSum(open + 1) && reader.takeSign(')');
            put(word);
            return good;
        }

        private boolean readWord(int open) {
            int word = reader.word;
            if (word < 0 || word >= ALL_WORDS || (known >> word & 1L) == 0L) {
                return reader.failHere(FAULT_TEXT);
            }
            if (word == BOATS) {
                boolean good = openOne(open) && readPart(open + 1);
                put(BOATS);
                return good;
            }
            put(word);
            reader.move();
            return true;
        }

        private boolean openOne(int open) {
            if (open >= MOST_OPEN) {
                return reader.failHere(FAULT_OPEN);
            }
            reader.move();
            return true;
        }

        private void put(int wordOrSign) {
            putNumber(~wordOrSign);
        }

        private void putNumber(int step) {
            if (code != null) {
                code.add(step);
            }
        }
    }

    /** What a text told, and nothing that changes by acts. */
    private static final class Lake {
        static final int HARBOUR = 0;
        static final int WRECKED = 3;
        static final int LAND = 4;
        static final String LETTERS = "hsdwl";
        static final int NO_HARBOUR = 99;
        static final int COIN = 5;

        final int[] kinds = new int[MOST_CELLS];
        final int[] homes = new int[MOST_CELLS];
        final int[] boatNames = new int[MOST_BOATS];
        final int[] firstCells = new int[MOST_BOATS];
        final int[] firstTrusts = new int[MOST_BOATS];
        final int[] handNames = new int[MOST_HANDS];
        final int[] skills = new int[MOST_HANDS];
        final int[] liking = new int[MOST_BOATS * MOST_HANDS];
        final int[] skyHours = new int[MOST_SKIES];
        final int[] skyKinds = new int[MOST_SKIES];
        /** dread, grows, falls, in this order. */
        final Code sums = new Code();
        int columns;
        int rows;
        int boats;
        int hands;
        int skies;
        int coin;
        int statements;

        Lake() {
            coin = COIN;
        }

        void clear() {
            columns = 0;
            rows = 0;
            boats = 0;
            hands = 0;
            skies = 0;
            coin = COIN;
            statements = 0;
            sums.clear();
            Arrays.fill(liking, 0);
        }

        boolean isNone() {
            return columns == 0;
        }

        int cells() {
            return Math.min(MOST_CELLS, columns * rows);
        }

        boolean isCell(int cell) {
            return cell >= 0 && cell < MOST_CELLS && cell < columns * rows;
        }

        boolean isLand(int cell) {
            return isCell(cell) && kinds[cell] == LAND;
        }

        boolean isWater(int cell) {
            return isCell(cell) && kinds[cell] != LAND;
        }

        boolean isHarbour(int cell) {
            return isCell(cell) && kinds[cell] == HARBOUR;
        }

        boolean isBoat(int boat) {
            return boat >= 0 && boat < boats && boat < MOST_BOATS;
        }

        boolean isHand(int hand) {
            return hand >= 0 && hand < hands && hand < MOST_HANDS;
        }

        /** Of land 0, as a QUESTION has it. */
        int depthOf(int cell) {
            return isWater(cell) ? Math.min(2, kinds[cell]) : 0;
        }

        int wreckIn(int cell) {
            return isCell(cell) && kinds[cell] == WRECKED ? 1 : 0;
        }

        int homeOf(int cell) {
            return isCell(cell) ? homes[cell] : NO_HARBOUR;
        }

        int skillOf(int hand) {
            return isHand(hand) ? skills[hand] : 0;
        }

        int likingOf(int boat, int hand) {
            return isBoat(boat) && isHand(hand) ? liking[boat * MOST_HANDS + hand] : 0;
        }

        int skyAt(int hour) {
            int latest = NONE;
            int kind = 0;
            for (int i = 0; i < skies && i < MOST_SKIES; i++) {
                if (skyHours[i] <= hour && skyHours[i] > latest) {
                    latest = skyHours[i];
                    kind = skyKinds[i];
                }
            }
            return kind;
        }

        /** The CELL up, right, down or left (0 .. 3) of one; NONE where there is none, or land. */
        int stepFrom(int cell, int way) {
            if (!isCell(cell) || columns < 1) {
                return NONE;
            }
            int across = cell % columns;
            int to = NONE;
            switch (way) {
                case 0: to = cell - columns; break;
                case 1: to = across + 1 < columns ? cell + 1 : NONE; break;
                case 2: to = cell + columns; break;
                case 3: to = across > 0 ? cell - 1 : NONE; break;
                default: break;
            }
            return isWater(to) ? to : NONE;
        }

        boolean isBeside(int cell, int other) {
            for (int way = 0; way < WAYS; way++) {
                if (other != NONE && stepFrom(cell, way) == other) {
                    return true;
                }
            }
            return false;
        }

        /** Asked once all ROWS are told: the nearest harbour may be told last. */
        void measureHomes() {
            for (int cell = 0; cell < cells(); cell++) {
                homes[cell] = NO_HARBOUR;
                for (int other = 0; other < cells(); other++) {
                    if (isHarbour(other)) {
                        homes[cell] = Math.min(homes[cell], apart(cell, other));
                    }
                }
            }
        }

        private int apart(int cell, int other) {
            if (columns < 1) {
                return NO_HARBOUR;
            }
            return Math.abs(cell % columns - other % columns) + Math.abs(cell / columns - other / columns);
        }
    }

    /** Reads the STATEMENTS of a LAKE. */
    private static final class Scribe {
        private final Reader reader;
        private final Grammar grammar;

        Scribe(Reader reader, Grammar grammar) {
            this.reader = reader;
            this.grammar = grammar;
        }

        boolean readLake(Lake lake) {
            lake.clear();
            reader.rewind();
            for (int n = 0; n <= MOST_STATEMENTS && reader.kind != Reader.END; n++) {
                if (n == MOST_STATEMENTS) {
                    return reader.failHere(FAULT_MANY);
                }
                if (!readStatement(lake) || !reader.takeSign(';')) {
                    return false;
                }
                lake.statements++;
            }
            if (lake.statements == 0) {
                return reader.failHere(FAULT_TEXT);
            }
            lake.measureHomes();
            return true;
        }

        private boolean readStatement(Lake lake) {
            if (reader.kind != Reader.WORD || reader.isWord(LAKE) != (lake.statements == 0)) {
                return reader.failHere(FAULT_TEXT);
            }
            int word = reader.word;
            if (isOneTooMany(lake, word)) {
                return reader.failHere(FAULT_MANY);
            }
            switch (word) {
                case LAKE: return readColumns(lake);
                case ROW: return readRow(lake);
                case BOAT: return readBoat(lake);
                case HAND: return readHand(lake);
                case LIKES: return readLikes(lake);
                case CALM: case RAIN: case FOG: case STORM: return readSky(lake);
                case DREAD: return grammar.readInto(lake.sums, 0, Grammar.IN_DREAD);
                case GROWS: return grammar.readInto(lake.sums, 1, Grammar.IN_TRUST);
                case FALLS: return grammar.readInto(lake.sums, 2, Grammar.IN_TRUST);
                case COAX: return readCoax(lake);
                default: return reader.failHere(FAULT_TEXT);
            }
        }

        private static boolean isOneTooMany(Lake lake, int word) {
            switch (word) {
                case ROW: return lake.rows >= MOST_ROWS;
                case BOAT: return lake.boats >= MOST_BOATS;
                case HAND: return lake.hands >= MOST_HANDS;
                case CALM: case RAIN: case FOG: case STORM: return lake.skies >= MOST_SKIES;
                case DREAD: case GROWS: case FALLS: return lake.sums.isTold(word - DREAD);
                default: return false;
            }
        }

        private boolean readColumns(Lake lake) {
            reader.move();
            int columns = reader.takeNumber(3, MOST_COLUMNS);
            if (columns == NONE) {
                return false;
            }
            lake.columns = columns;
            return true;
        }

        private boolean readRow(Lake lake) {
            reader.move();
            if (reader.kind != Reader.WORD || reader.stop - reader.start != lake.columns) {
                return reader.failHere(FAULT_TEXT);
            }
            for (int i = 0; i < lake.columns; i++) {
                int from = reader.start + i;
                int cell = lake.rows * lake.columns + i;
                int kind = from >= 0 && from < MOST_BYTES ? kindOf(reader.bytes[from]) : NONE;
                if (kind == NONE || cell < 0 || cell >= MOST_CELLS) {
                    return reader.failHere(FAULT_TEXT);
                }
                lake.kinds[cell] = kind;
            }
            lake.rows++;
            reader.move();
            return true;
        }

        private static int kindOf(int letter) {
            for (int i = 0; i < Lake.LETTERS.length(); i++) {
                if (Lake.LETTERS.charAt(i) == letter) {
                    return i;
                }
            }
            return NONE;
        }

        private boolean readBoat(Lake lake) {
            int boat = lake.boats;
            int name = readNewName(lake);
            if (name == 0 || !reader.takeWord(TRUST)) {
                return false;
            }
            int trust = reader.takeNumber(0, MOST_TRUST);
            if (trust == NONE || !reader.takeWord(AT)) {
                return false;
            }
            int cell = readHarbour(lake);
            if (cell == NONE || boat < 0 || boat >= MOST_BOATS) {
                return false;
            }
            lake.boatNames[boat] = name;
            lake.firstTrusts[boat] = trust;
            lake.firstCells[boat] = cell;
            lake.boats++;
            return true;
        }

        private int readHarbour(Lake lake) {
            int column = reader.takeNumber(0, lake.columns - 1);
            if (column == NONE) {
                return NONE;
            }
            int place = reader.start;
            int row = reader.takeNumber(0, lake.rows - 1);
            if (row == NONE) {
                return NONE;
            }
            int cell = row * lake.columns + column;
            if (!lake.isHarbour(cell)) {
                reader.fail(FAULT_NUMBER, place);
                return NONE;
            }
            return cell;
        }

        private boolean readHand(Lake lake) {
            int hand = lake.hands;
            int name = readNewName(lake);
            if (name == 0 || !reader.takeWord(SKILL)) {
                return false;
            }
            int skill = reader.takeNumber(0, 9);
            if (skill == NONE || hand < 0 || hand >= MOST_HANDS) {
                return false;
            }
            lake.handNames[hand] = name;
            lake.skills[hand] = skill;
            lake.hands++;
            return true;
        }

        /** The word that stands here, then a NAME that none bears yet; 0 with a FAULT. */
        private int readNewName(Lake lake) {
            reader.move();
            if (!reader.isAtName()) {
                return 0;
            }
            int name = reader.letters;
            if (find(lake.boatNames, lake.boats, name) != NONE || find(lake.handNames, lake.hands, name) != NONE) {
                reader.failHere(FAULT_NAME);
                return 0;
            }
            reader.move();
            return name;
        }

        /** Which of these the NAME here is; NONE with a FAULT. */
        private int readKnownName(int[] names, int count) {
            if (!reader.isAtName()) {
                return NONE;
            }
            int which = find(names, count, reader.letters);
            if (which == NONE) {
                reader.failHere(FAULT_NAME);
                return NONE;
            }
            reader.move();
            return which;
        }

        private static int find(int[] names, int count, int name) {
            for (int i = 0; i < count && i < names.length; i++) {
                if (names[i] == name) {
                    return i;
                }
            }
            return NONE;
        }

        private boolean readLikes(Lake lake) {
            reader.move();
            int boat = readKnownName(lake.boatNames, lake.boats);
            if (boat == NONE) {
                return false;
            }
            int hand = readKnownName(lake.handNames, lake.hands);
            if (hand == NONE) {
                return false;
            }
            int much = reader.takeNumber(0, 99);
            if (much == NONE || !lake.isBoat(boat) || !lake.isHand(hand)) {
                return false;
            }
            lake.liking[boat * MOST_HANDS + hand] = much;
            return true;
        }

        private boolean readSky(Lake lake) {
            int which = lake.skies;
            int kind = reader.word - CALM;
            reader.move();
            if (!reader.takeWord(AT)) {
                return false;
            }
            int place = reader.start;
            int hour = reader.takeNumber(0, 99);
            if (hour == NONE || which < 0 || which >= MOST_SKIES) {
                return false;
            }
            if (find(lake.skyHours, which, hour) != NONE) {
                return reader.fail(FAULT_NUMBER, place);
            }
            lake.skyHours[which] = hour;
            lake.skyKinds[which] = kind;
            lake.skies++;
            return true;
        }

        private boolean readCoax(Lake lake) {
            reader.move();
            int coin = reader.takeNumber(1, 99);
            if (coin == NONE) {
                return false;
            }
            lake.coin = coin;
            return true;
        }
    }

    /** All that acts change, in one row: an act is undone by laying an older row over it. */
    private static final class Fleet {
        private static final int HOUR = 0;
        private static final int COINS = 1;
        private static final int TRIES = 2;
        private static final int CELLS = 3;
        private static final int TRUSTS = CELLS + MOST_BOATS;
        private static final int BALKED = TRUSTS + MOST_BOATS;
        private static final int CREWS = BALKED + MOST_BOATS;
        private static final int KEPT = CREWS + MOST_BOATS;
        private static final int ALL_OF_IT = KEPT + MOST_KEPT;

        private final int[] now = new int[ALL_OF_IT];
        private final int[][] past = new int[MOST_UNDONE][ALL_OF_IT];
        private int newest;
        private int boats;
        int undoable;

        Fleet() {
            newest = 0;
            boats = 0;
            undoable = 0;
        }

        void begin(Lake lake) {
            forget();
            now[HOUR] = 0;
            now[COINS] = 0;
            boats = Math.min(MOST_BOATS, lake.boats);
            for (int boat = 0; boat < boats; boat++) {
                now[CELLS + boat] = lake.firstCells[boat];
                now[TRUSTS + boat] = lake.firstTrusts[boat];
                now[BALKED + boat] = 0;
                now[CREWS + boat] = NONE;
            }
        }

        void forget() {
            now[TRIES] = 0;
            undoable = 0;
        }

        void remember() {
            newest = (newest + 1) % MOST_UNDONE;
            if (newest >= 0) {
                System.arraycopy(now, 0, past[newest], 0, ALL_OF_IT);
            }
            undoable = Math.min(MOST_UNDONE, undoable + 1);
        }

        boolean goBack() {
            if (undoable < 1 || newest < 0 || newest >= MOST_UNDONE) {
                return false;
            }
            System.arraycopy(past[newest], 0, now, 0, ALL_OF_IT);
            newest = (newest + MOST_UNDONE - 1) % MOST_UNDONE;
            undoable--;
            return true;
        }

        private boolean isBoat(int boat) {
            return boat >= 0 && boat < boats && boat < MOST_BOATS;
        }

        int hour() {
            return now[HOUR];
        }

        int coins() {
            return now[COINS];
        }

        int cellOf(int boat) {
            return isBoat(boat) ? now[CELLS + boat] : NONE;
        }

        int trustOf(int boat) {
            return isBoat(boat) ? now[TRUSTS + boat] : 0;
        }

        int balksOf(int boat) {
            return isBoat(boat) ? now[BALKED + boat] : 0;
        }

        int handOf(int boat) {
            return isBoat(boat) ? now[CREWS + boat] : NONE;
        }

        int boatOf(int hand) {
            for (int boat = 0; boat < boats; boat++) {
                if (handOf(boat) == hand) {
                    return boat;
                }
            }
            return NONE;
        }

        int bitsIn(int cell) {
            int bits = 0;
            for (int boat = 0; boat < boats; boat++) {
                if (cellOf(boat) == cell) {
                    bits |= 1 << boat;
                }
            }
            return bits;
        }

        int allTrust() {
            int all = 0;
            for (int boat = 0; boat < boats; boat++) {
                all += trustOf(boat);
            }
            return all;
        }

        int allBalks() {
            int all = 0;
            for (int boat = 0; boat < boats; boat++) {
                all += balksOf(boat);
            }
            return all;
        }

        void passHours(int n) {
            now[HOUR] += n;
        }

        void pay(int coins) {
            now[COINS] = Math.min(MOST_COINS, now[COINS] + coins);
        }

        void setTrust(int boat, int trust) {
            if (isBoat(boat)) {
                now[TRUSTS + boat] = inTrust(trust);
            }
        }

        void crew(int boat, int hand) {
            int left = hand == NONE ? NONE : boatOf(hand);
            if (isBoat(left)) {
                now[CREWS + left] = NONE;
            }
            if (isBoat(boat)) {
                now[CREWS + boat] = hand;
            }
        }

        void move(int boat, int cell) {
            if (isBoat(boat)) {
                now[CELLS + boat] = cell;
            }
        }

        void balk(int boat) {
            if (isBoat(boat)) {
                now[BALKED + boat] = Math.min(MOST_BALKS, now[BALKED + boat] + 1);
            }
        }

        void keep(int boat, int cell, int went) {
            int slot = now[TRIES] % MOST_KEPT;
            if (slot >= 0) {
                now[KEPT + slot] = now[HOUR] << 10 | boat << 7 | cell << 1 | went;
                now[TRIES]++;
            }
        }

        int tellable() {
            return Math.min(MOST_KEPT, now[TRIES]);
        }

        int tell(int k, int what) {
            int slot = (now[TRIES] - tellable() + k) % MOST_KEPT;
            if (slot < 0) {
                return NONE;
            }
            int attempt = now[KEPT + slot];
            switch (what) {
                case 0: return attempt >> 10;
                case 1: return attempt >> 7 & 7;
                case 2: return attempt >> 1 & 63;
                case 3: return attempt & 1;
                default: return NONE;
            }
        }

        static int hourIn(int[] image) {
            return image.length < IMAGE_HEAD ? 0 : image[0] * 256 + image[1];
        }

        static int coinsIn(int[] image) {
            return image.length < IMAGE_HEAD ? 0 : (image[2] * 256 + image[3]) * 256 + image[4];
        }

        void take(int[] image) {
            now[HOUR] = hourIn(image);
            now[COINS] = coinsIn(image);
            for (int boat = 0; boat < boats; boat++) {
                int at = IMAGE_HEAD + IMAGE_BOAT * boat;
                if (isBoat(boat) && at + 3 < image.length) {
                    now[CELLS + boat] = image[at];
                    now[TRUSTS + boat] = image[at + 1];
                    now[BALKED + boat] = image[at + 2];
                    now[CREWS + boat] = image[at + 3] - 1;
                }
            }
        }
    }

    /** Reckons what a Code tells, for the values and crowds that were put here. */
    private static final class Reckoner {
        private static final int HIGHEST = 1000000;
        /** Far above what six open at once can pile up. */
        private static final int MOST_PILED = 64;

        final int[] values = new int[ALL_WORDS];
        final int[] crowds = new int[MOST_CELLS];
        private final int[] pile = new int[MOST_PILED];
        private int piled;

        Reckoner() {
            piled = 0;
        }

        int reckon(Code code, int part) {
            piled = 0;
            if (!code.isTold(part)) {
                return 0;
            }
            for (int i = code.from[part]; i >= 0 && i < code.upTo[part] && i < MOST_BYTES; i++) {
                int step = code.row[i];
                if (step >= 0) {
                    push(step);
                } else {
                    apply(~step);
                }
            }
            return pop();
        }

        private void apply(int wordOrSign) {
            // Words ahead of boats are values, all behind it take from the pile.
            if (wordOrSign >= 0 && wordOrSign < BOATS) {
                push(values[wordOrSign]);
                return;
            }
            int right = pop();
            if (wordOrSign == BOATS) {
                push(crowdOf(right));
            } else if (wordOrSign == NOT) {
                push(right == 0 ? 1 : 0);
            } else {
                push(join(wordOrSign, pop(), right));
            }
        }

        private static int join(int how, int left, int right) {
            long joined = 0L;
            switch (how) {
                case '+': joined = (long) left + right; break;
                case '-': joined = (long) left - right; break;
                case '*': joined = (long) left * right; break;
                case '/': joined = right == 0 ? 0 : Math.floorDiv(left, right); break;
                case MIN: case AND: joined = Math.min(left, right); break;
                case MAX: case OR: joined = Math.max(left, right); break;
                case '<': joined = left < right ? 1 : 0; break;
                case '>': joined = left > right ? 1 : 0; break;
                default: joined = left == right ? 1 : 0; break;
            }
            return (int) Math.max(-HIGHEST, Math.min(HIGHEST, joined));
        }

        private int crowdOf(int cell) {
            return cell >= 0 && cell < MOST_CELLS ? crowds[cell] : 0;
        }

        private void push(int value) {
            if (piled >= 0 && piled < MOST_PILED) {
                pile[piled] = value;
                piled++;
            }
        }

        private int pop() {
            if (piled < 1 || piled > MOST_PILED) {
                return 0;
            }
            piled--;
            return pile[piled];
        }
    }

    /** THE LAKE with its BOATS as they are now: DREAD, and what a TRY does. */
    private static final class Waters {
        private static final int DREAD_SUM = 0;
        private static final int GROWS_SUM = 1;
        private static final int FALLS_SUM = 2;

        final Fleet fleet;
        private final Reckoner reckoner = new Reckoner();
        Lake lake;

        Waters(Lake lake, Fleet fleet) {
            this.lake = lake;
            this.fleet = fleet;
        }

        /** DREAD behind a BOAT that trusts as bold tells; alone if bold is NONE. */
        int fearOf(int boat, int cell, int bold) {
            if (!lake.sums.isTold(DREAD_SUM)) {
                return 10 * lake.depthOf(cell);
            }
            look(boat, cell, bold);
            return inTrust(reckoner.reckon(lake.sums, DREAD_SUM));
        }

        /** How it would trust behind a TRY of what it fears so much; nothing changes. */
        int trustAfter(int boat, int cell, int bold, int fear) {
            int trust = fleet.trustOf(boat);
            int part = fear <= trust ? GROWS_SUM : FALLS_SUM;
            if (!lake.sums.isTold(part)) {
                return trust;
            }
            look(boat, cell, bold);
            reckoner.values[TRUST] = trust;
            reckoner.values[FEAR] = fear;
            return inTrust(reckoner.reckon(lake.sums, part));
        }

        /** A TRY: 1 if it went, else 0. */
        int attempt(int boat, int cell, int bold) {
            int fear = fearOf(boat, cell, bold);
            int went = fear <= fleet.trustOf(boat) ? 1 : 0;
            fleet.setTrust(boat, trustAfter(boat, cell, bold, fear));
            if (went == 1) {
                fleet.move(boat, cell);
            } else {
                fleet.balk(boat);
            }
            fleet.keep(boat, cell, went);
            return went;
        }

        int coinsUpTo(int boat, int fear) {
            int wanting = fear - fleet.trustOf(boat);
            if (wanting <= 0 || lake.coin < 1) {
                return 0;
            }
            return (wanting + lake.coin - 1) / lake.coin;
        }

        void countCrowds() {
            for (int cell = 0; cell < MOST_CELLS; cell++) {
                reckoner.crowds[cell] = Integer.bitCount(fleet.bitsIn(cell));
            }
        }

        int answerFor(Code question, int boat, int cell) {
            int columns = Math.max(1, lake.columns);
            int fear = lake.isLand(cell) ? MOST_TRUST : fearOf(boat, cell, NONE);
            look(boat, cell, NONE);
            reckoner.values[NUMBER] = cell;
            reckoner.values[ACROSS] = cell % columns;
            reckoner.values[DOWN] = cell / columns;
            reckoner.values[DREAD] = fear;
            reckoner.values[TRUST] = fleet.trustOf(boat);
            return reckoner.reckon(question, 0);
        }

        private void look(int boat, int cell, int bold) {
            int[] values = reckoner.values;
            values[DEPTH] = lake.depthOf(cell);
            values[WRECK] = lake.wreckIn(cell);
            values[HOME] = lake.homeOf(cell);
            values[SKY] = lake.skyAt(fleet.hour());
            values[BALKS] = fleet.balksOf(boat);
            values[SKILL] = lake.skillOf(fleet.handOf(boat));
            values[AHEAD] = bold == NONE ? 0 : 1;
            values[BOLD] = bold == NONE ? 0 : bold;
        }
    }

    /** Ways of one BOAT, alone, as all is now. */
    private static final class Ways {
        private static final int FAR = 1000;

        private final Waters waters;
        private final int[] fears = new int[MOST_CELLS];
        private final int[] marks = new int[MOST_CELLS];
        /** The CELLS of the latest ROUTE, the first come to first. */
        final int[] row = new int[MOST_CELLS];
        /** Where the latest run ended. */
        int shelter;

        Ways(Waters waters) {
            this.waters = waters;
            shelter = NONE;
        }

        /** Steps of the ROUTE, which then stands in the row; NONE if there is none. */
        int findRoute(int boat, int cell) {
            readFears(boat);
            int from = waters.fleet.cellOf(boat);
            if (!waters.lake.isCell(from) || !waters.lake.isCell(cell)) {
                return NONE;
            }
            if (from == cell) {
                return 0;
            }
            int trust = waters.fleet.trustOf(boat);
            markStepsTo(cell, trust);
            int steps = stepsBeside(from);
            if (steps >= FAR) {
                return NONE;
            }
            int at = from;
            for (int i = 0; i <= steps && i < MOST_CELLS; i++) {
                at = firstBeside(at, steps - i);
                row[i] = at;
            }
            return steps + 1;
        }

        private void readFears(int boat) {
            for (int cell = 0; cell < waters.lake.cells(); cell++) {
                fears[cell] = waters.lake.isLand(cell) ? MOST_TRUST : waters.fearOf(boat, cell, NONE);
            }
        }

        /** Marks are steps from a CELL to this one over CELLS that it trusts itself to, FAR without. */
        private void markStepsTo(int cell, int trust) {
            Arrays.fill(marks, FAR);
            if (!isEasy(cell, trust)) {
                return;
            }
            marks[cell] = 0;
            boolean changed = true;
            for (int round = 0; round < MOST_CELLS && changed; round++) {
                changed = false;
                for (int i = 0; i < waters.lake.cells(); i++) {
                    int steps = isEasy(i, trust) ? stepsBeside(i) + 1 : FAR;
                    if (steps < marks[i]) {
                        marks[i] = steps;
                        changed = true;
                    }
                }
            }
        }

        private boolean isEasy(int cell, int trust) {
            return waters.lake.isWater(cell) && fears[cell] <= trust;
        }

        private int stepsBeside(int cell) {
            int least = FAR;
            for (int way = 0; way < WAYS; way++) {
                int beside = waters.lake.stepFrom(cell, way);
                if (waters.lake.isCell(beside)) {
                    least = Math.min(least, marks[beside]);
                }
            }
            return least;
        }

        private int firstBeside(int cell, int mark) {
            int first = NONE;
            for (int way = 0; way < WAYS; way++) {
                int beside = waters.lake.stepFrom(cell, way);
                if (waters.lake.isCell(beside) && marks[beside] == mark && (first == NONE || beside < first)) {
                    first = beside;
                }
            }
            return first;
        }

        /** The greatest DREAD of the GENTLEST way; NONE if there is no way. */
        int gentlest(int boat, int cell) {
            readFears(boat);
            int from = waters.fleet.cellOf(boat);
            if (!waters.lake.isCell(from) || !waters.lake.isCell(cell)) {
                return NONE;
            }
            Arrays.fill(marks, FAR);
            marks[from] = 0;
            boolean changed = true;
            for (int round = 0; round < MOST_CELLS && changed; round++) {
                changed = false;
                for (int i = 0; i < waters.lake.cells(); i++) {
                    int fear = waters.lake.isWater(i) ? Math.max(fears[i], stepsBeside(i)) : FAR;
                    if (fear < marks[i]) {
                        marks[i] = fear;
                        changed = true;
                    }
                }
            }
            return marks[cell] < FAR ? marks[cell] : NONE;
        }

        /** In how many steps it RUNS to its shelter. */
        int runAway(int boat) {
            readFears(boat);
            int steps = 0;
            shelter = waters.fleet.cellOf(boat);
            for (int i = 0; i < MOST_CELLS; i++) {
                int calmer = calmerBeside(shelter);
                if (calmer == NONE) {
                    break;
                }
                shelter = calmer;
                steps++;
            }
            return steps;
        }

        private int calmerBeside(int cell) {
            if (!waters.lake.isCell(cell)) {
                return NONE;
            }
            int least = fears[cell];
            int calmer = NONE;
            for (int way = 0; way < WAYS; way++) {
                int beside = waters.lake.stepFrom(cell, way);
                if (!waters.lake.isCell(beside)) {
                    continue;
                }
                boolean first = calmer != NONE && fears[beside] == least && beside < calmer;
                if (fears[beside] < least || first) {
                    least = fears[beside];
                    calmer = beside;
                }
            }
            return calmer;
        }
    }

    /** BOATS together: FILES, IN ORDER, WHOM FIRST, MATCHED. */
    private static final class Company {
        private final Waters waters;
        private final int[] row = new int[MOST_BOATS];
        /** The row of the latest sort(). */
        final int[] best = new int[MOST_BOATS];
        /** How many go by the latest findLeader(). */
        int followed;
        private int bestGone;
        /** Of each HAND the BOAT that has him as yet. */
        private final int[] holders = new int[MOST_HANDS];
        /** Of each BOAT the HANDS that it has asked, as bits. */
        private final int[] asked = new int[MOST_BOATS];

        Company(Waters waters) {
            this.waters = waters;
            followed = 0;
            bestGone = NONE;
        }

        /** Whether these are BOATS of one CELL, and that one beside it. */
        boolean canTry(int boats, int cell) {
            if (boats <= 0 || boats >= 1 << Math.min(MOST_BOATS, waters.lake.boats)) {
                return false;
            }
            for (int boat = 0; boat < MOST_BOATS; boat++) {
                int from = waters.fleet.cellOf(boat);
                if ((boats >> boat & 1) == 1) {
                    return (waters.fleet.bitsIn(from) & boats) == boats && waters.lake.isBeside(from, cell);
                }
            }
            return false;
        }

        int sendFile(int[] boats, int size, int cell) {
            int gone = 0;
            int bold = NONE;
            for (int i = 0; i < size && i < boats.length; i++) {
                int boat = boats[i];
                if (waters.attempt(boat, cell, bold) == 1) {
                    bold = waters.fleet.trustOf(boat);
                    gone++;
                }
            }
            return gone;
        }

        /** How many go IN ORDER; the row is the best one then. */
        int sort(int boats, int cell) {
            bestGone = NONE;
            placeOne(boats, cell, 0, 0, NONE);
            return bestGone;
        }

        /** Rows are tried from the first on, so that only a better one may oust the best. */
        private void placeOne(int left, int cell, int at, int gone, int bold) {
            if (gone + Integer.bitCount(left) <= bestGone) {
                return;
            }
            if (left == 0) {
                bestGone = gone;
                System.arraycopy(row, 0, best, 0, MOST_BOATS);
                return;
            }
            for (int boat = 0; boat < MOST_BOATS && at >= 0 && at < MOST_BOATS; boat++) {
                if ((left >> boat & 1) == 0) {
                    continue;
                }
                row[at] = boat;
                int others = left & ~(1 << boat);
                int fear = waters.fearOf(boat, cell, bold);
                if (fear <= waters.fleet.trustOf(boat)) {
                    placeOne(others, cell, at + 1, gone + 1, waters.trustAfter(boat, cell, bold, fear));
                } else {
                    placeOne(others, cell, at + 1, gone, bold);
                }
            }
        }

        /** WHOM FIRST; NONE if none goes. */
        int findLeader(int boats, int cell) {
            int leader = NONE;
            followed = 0;
            for (int boat = 0; boat < MOST_BOATS; boat++) {
                int many = (boats >> boat & 1) == 1 ? countLed(boat, boats, cell) : 0;
                if (many > followed) {
                    followed = many;
                    leader = boat;
                }
            }
            return leader;
        }

        /** The leader and those who go behind it; 0 if it does not go itself. */
        private int countLed(int leader, int boats, int cell) {
            int fear = waters.fearOf(leader, cell, NONE);
            if (fear > waters.fleet.trustOf(leader)) {
                return 0;
            }
            int bold = waters.trustAfter(leader, cell, NONE, fear);
            int many = 1;
            for (int boat = 0; boat < MOST_BOATS; boat++) {
                boolean other = boat != leader && (boats >> boat & 1) == 1;
                if (other && waters.fearOf(boat, cell, bold) <= waters.fleet.trustOf(boat)) {
                    many++;
                }
            }
            return many;
        }

        /** BOATS ask, HANDS keep the best who asked: so BOATS are as well off as can be. */
        int matchedHand(int boat) {
            Arrays.fill(holders, NONE);
            Arrays.fill(asked, 0);
            for (int n = 0; n < MOST_BOATS * MOST_HANDS; n++) {
                int asking = findAsking();
                if (asking == NONE) {
                    break;
                }
                askOne(asking);
            }
            return handHeldBy(boat);
        }

        private int handHeldBy(int boat) {
            for (int hand = 0; hand < waters.lake.hands && hand < MOST_HANDS; hand++) {
                if (holders[hand] == boat) {
                    return hand;
                }
            }
            return NONE;
        }

        /** A BOAT without a HAND that has not asked them all. */
        private int findAsking() {
            int everyone = (1 << Math.min(MOST_HANDS, waters.lake.hands)) - 1;
            for (int boat = 0; boat < waters.lake.boats && boat < MOST_BOATS; boat++) {
                if (asked[boat] != everyone && handHeldBy(boat) == NONE) {
                    return boat;
                }
            }
            return NONE;
        }

        private void askOne(int boat) {
            int hand = bestUnasked(boat);
            if (!waters.lake.isBoat(boat) || !waters.lake.isHand(hand)) {
                return;
            }
            asked[boat] |= 1 << hand;
            int holder = holders[hand];
            if (holder == NONE || isRather(boat, holder)) {
                holders[hand] = boat;
            }
        }

        private boolean isRather(int boat, int other) {
            int more = waters.fleet.trustOf(boat) - waters.fleet.trustOf(other);
            return more > 0 || more == 0 && boat < other;
        }

        private int bestUnasked(int boat) {
            int first = NONE;
            if (!waters.lake.isBoat(boat)) {
                return NONE;
            }
            for (int hand = 0; hand < waters.lake.hands && hand < MOST_HANDS; hand++) {
                boolean open = (asked[boat] >> hand & 1) == 0;
                if (open && (first == NONE || waters.lake.likingOf(boat, hand) > waters.lake.likingOf(boat, first))) {
                    first = hand;
                }
            }
            return first;
        }
    }

    /** What a BOAT did where: how it can trust. */
    private static final class Trials {
        private final Waters waters;
        private final int[] cells = new int[MOST_TRIALS];
        private final int[] went = new int[MOST_TRIALS];
        private int boat;
        int count;
        int least;
        int greatest;
        /** How many do alike at the most by the latest findNext(). */
        int alike;

        Trials(Waters waters) {
            this.waters = waters;
            count = 0;
        }

        boolean read(int who, int[] bytes, int size) {
            if (!waters.lake.isBoat(who) || size < 2 || size > 2 * MOST_TRIALS || size % 2 != 0) {
                return false;
            }
            for (int i = 0; i + 1 < size && i + 1 < bytes.length; i += 2) {
                if (!waters.lake.isWater(bytes[i]) || bytes[i + 1] > 1) {
                    return false;
                }
            }
            boat = who;
            count = size / 2;
            for (int i = 0; i < count && i < MOST_TRIALS && 2 * i + 1 < bytes.length; i++) {
                cells[i] = bytes[2 * i];
                went[i] = bytes[2 * i + 1];
            }
            return true;
        }

        /** How many trusts can be: from least to greatest, as one goes wherever a smaller one goes. */
        int findTrusts() {
            least = 0;
            greatest = MOST_TRUST;
            for (int i = 0; i < count && i < MOST_TRIALS; i++) {
                int fear = waters.fearOf(boat, cells[i], NONE);
                if (went[i] == 1) {
                    least = Math.max(least, fear);
                } else {
                    greatest = Math.min(greatest, fear - 1);
                }
            }
            return Math.max(0, greatest - least + 1);
        }

        /** NEXT, for the trusts that were found. */
        int findNext() {
            int next = NONE;
            int many = greatest - least + 1;
            alike = NONE;
            for (int cell = 0; cell < waters.lake.cells(); cell++) {
                if (waters.lake.isLand(cell)) {
                    continue;
                }
                int fear = waters.fearOf(boat, cell, NONE);
                int goes = Math.max(0, greatest - Math.max(least, fear) + 1);
                int most = Math.max(goes, many - goes);
                if (next == NONE || most < alike) {
                    next = cell;
                    alike = most;
                }
            }
            return next;
        }
    }
}
