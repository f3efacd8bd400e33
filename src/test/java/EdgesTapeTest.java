/** Promises 1 to 5, sentence by sentence: a new object, the tape, lake() and its FAULT. */
public final class EdgesTapeTest {
    private static final Checks CHECKS = new Checks();
    private static final int[] OTHERS = {Integer.MIN_VALUE, -2, -1, 2, 3, Integer.MAX_VALUE};
    private static final String LAKE = "lake 3;row hsd;row slh;boat a trust 15 at 0 0;boat b trust 5 at 0 0;"
        + "hand m skill 3;hand n skill 1;likes a m 4;rain at 1;coax 7;";
    private static final String WIDE = "lake 3;row hhh;row hhh;row hhh;boat a trust 5 at 1 1;";

    public static void main(String[] args) {
        newObject();
        calls512();
        fedBytes();
        fedBeyond1600();
        endedTape();
        endRefused();
        lakeTakesTheTape();
        lakeWithFault();
        lakeWithoutStatement();
        lakeAnew();
        lakeBehindOthers();
        seedStaysWithALake();
        faultTold();
        faultOfAnotherWhat();
        CHECKS.finish();
    }

    /** A LAKE in which something of each sort has been done and told. */
    private static ShyBoats busy() {
        ShyBoats x = Checks.onLake(LAKE);
        x.go(0, 1);
        x.go(1, 1);
        x.coax(1, 2);
        x.man(0, 1);
        x.hours(2);
        Checks.trials(x, 0, 1, 1, 2, 0);
        return x;
    }

    private static void newObject() {
        CHECKS.holds("Promise 1", "No lake, no BOATS.");
        ShyBoats x = new ShyBoats();
        for (int what = 0; what < 12; what++) {
            CHECKS.due("has " + what, x.has(what), 0);
        }
        for (int what = 0; what < 5; what++) {
            CHECKS.due("boat 0, " + what, x.boat(0, what), -1);
            CHECKS.due("cell 0, " + what, x.cell(0, what), -1);
        }
        CHECKS.due("hours", x.hours(1), -1);
        CHECKS.due("drift", x.drift(1), -1);
        CHECKS.due("on", Checks.on(x, Checks.sealed(0, 0, 0, 0, 0)), false);
        CHECKS.due("ask", Checks.ask(x, 0, "often all"), ShyBoats.NOTHING);
        CHECKS.due("a byte of the tape", x.end(1), false);
    }

    private static void calls512() {
        CHECKS.holds("What it is", "An object is used for at most 512 calls after it has been made");
        ShyBoats x = new ShyBoats();
        x.feed(0x6c616b65, 0x20333b72, 0x6f772068, 0x68683b62, 0x6f617420);
        x.feed(0x61207472, 0x75737420, 0x35206174, 0x20302030, 0x3b202020);
        CHECKS.due("call 3", x.lake(), 3);
        for (int call = 4; call <= 511; call++) {
            CHECKS.due("call " + call, x.go(0, call % 2 == 0 ? 1 : 0), 1);
        }
        CHECKS.due("call 512", x.kept(39, 2), 0);
    }

    private static void fedBytes() {
        CHECKS.holds("Promise 2", "Twenty bytes come behind those on the tape, of each number the highest first: how many there are;");
        ShyBoats x = new ShyBoats();
        // "lake 3;row hsd;coax 99;" and blanks: wrong in any other order
        CHECKS.due("the first", x.feed(0x6c616b65, 0x20333b72, 0x6f772068, 0x73643b63, 0x6f617820), 20);
        CHECKS.due("the second", x.feed(0x39393b20, 0x20202020, 0x20202020, 0x20202020, 0x20202020), 40);
        CHECKS.due("as a text", x.lake(), 3);
        CHECKS.due("cells", 100 * x.cell(0, 0) + 10 * x.cell(1, 0) + x.cell(2, 0), 12);
        CHECKS.due("the first again", x.feed(0, 0, 0, 0, 0), 20);
        // bytes above 127 are none below 0: 255 is the byte at which the text goes on no more
        ShyBoats y = new ShyBoats();
        y.feed(0x6c616b65, 0x20333bff, 0x20202020, 0x20202020, 0x20202020);
        CHECKS.due("a byte of 255", y.lake(), -1);
        CHECKS.due("it is no blank", y.fault(1), 7);
        ShyBoats z = Checks.onLake(LAKE);
        z.feed(0xff010000, 0, 0, 0, 0);
        z.end(2);
        CHECKS.due("255 is no cell", z.trials(0), -1);
        for (int n = 1; n <= 80; n++) {
            CHECKS.due("feed " + n, y.feed(-1, 0, 0, 0, n), 20 * n);
        }
    }

    private static void fedBeyond1600() {
        CHECKS.holds("Promise 2", "NONE, refused (0), if there would be more than 1600.");
        ShyBoats x = Checks.onLake(WIDE);
        String text = "total " + "1+".repeat(796) + "1";
        CHECKS.due("bytes but one", text.length(), 1599);
        Checks.text(x, text + " ");
        CHECKS.due("1600 stand there", x.end(1600), true);
        CHECKS.refused("1620", x, 0, () -> x.feed(0x32323232, 0x32323232, 0x32323232, 0x32323232, 0x32323232));
        CHECKS.due("the tape stays", x.ask(0), 9 * 797);
        Checks.text(x, text);
        CHECKS.due("1581", x.end(1581), true);
        CHECKS.refused("1601", x, 0, () -> x.feed(0, 0, 0, 0, 0));
        CHECKS.due("it is 1581 yet", x.end(1582), false);
        CHECKS.due("1580", x.end(1580), true);
        CHECKS.due("1600", x.feed(0, 0, 0, 0, 0), 1600);
    }

    private static void endedTape() {
        CHECKS.holds("Promise 3", "The tape has its first n bytes alone: true;");
        ShyBoats x = new ShyBoats();
        CHECKS.due("none of none", x.end(0), true);
        Checks.text(x, "lake 3;lake 5;");
        CHECKS.due("all", x.end(14), true);
        CHECKS.due("seven", x.end(7), true);
        CHECKS.due("the first seven", x.lake(), 1);
        CHECKS.due("of three columns", x.has(0), 3);
        Checks.text(x, "lake 5");
        x.end(4);
        CHECKS.due("more comes behind them", x.feed(0x20373b20, 0x20202020, 0x20202020, 0x20202020, 0x20202020), 24);
        CHECKS.due("lake 7;", x.lake(), 1);
        CHECKS.due("of seven columns", x.has(0), 7);
        x.feed(0, 0, 0, 0, 0);
        CHECKS.due("none", x.end(0), true);
        CHECKS.due("it has none", x.end(1), false);
    }

    private static void endRefused() {
        CHECKS.holds("Promise 3", "false, refused (0), if it has not so many, or n is below 0.");
        for (int n : new int[] {1, -1, 1600, Integer.MAX_VALUE, Integer.MIN_VALUE}) {
            ShyBoats x = busy();
            CHECKS.refusedFlag("end of " + n + ", none there", x, 0, () -> x.end(n));
        }
        for (int n : new int[] {10, -1, 20, 1601, Integer.MAX_VALUE, Integer.MIN_VALUE}) {
            ShyBoats y = busy();
            Checks.text(y, "often all");
            CHECKS.refusedFlag("end of " + n + ", nine there", y, 0, () -> y.end(n));
            CHECKS.due("the tape stays", y.ask(0), 6);
        }
    }

    private static void lakeTakesTheTape() {
        CHECKS.holds("Promise 4", "The tape (it goes) is THE LAKE: how many STATEMENTS;");
        CHECKS.goodLake("lake 3;", 1);
        CHECKS.goodLake(LAKE, 10);
        CHECKS.goodLake("lake 3;" + "coax 7;".repeat(59), 60);
        ShyBoats x = new ShyBoats();
        Checks.lake(x, LAKE);
        CHECKS.due("the next byte is the first", x.feed(0, 0, 0, 0, 0), 20);
        CHECKS.due("a faulty one", x.lake(), -1);
        CHECKS.due("goes, too", x.feed(0, 0, 0, 0, 0), 20);
        x.end(0);
        CHECKS.due("another lake", Checks.lake(x, "lake 8;"), 1);
        CHECKS.due("takes the first one's place", x.has(0), 8);
        CHECKS.due("without rows", x.has(1), 0);
        CHECKS.due("without boats", x.has(2), 0);
        CHECKS.due("without hands", x.has(3), 0);
    }

    private static void lakeWithFault() {
        CHECKS.holds("Promise 4", "NONE, refused (1), with a FAULT (all stays;");
        String[] texts = {"", "lake", "lake 9;", "lake 3;row hhh;boat a trust 9 at 0 0;boat a", "lake 3;dread (((((((",
            "lake 3;dread 1;dread 2;", "lake 8;row hhhhhhhh;boat z trust 9 at 7 0;hand y skill 9;likes z y 9;storm at 0;coax 99;grows 5;x"};
        for (String text : texts) {
            ShyBoats x = busy();
            CHECKS.refused(text, x, 1, () -> Checks.lake(x, text));
            CHECKS.gone(text, x);
            CHECKS.due("its liking stays", x.likes(0, 0), 4);
            CHECKS.due("its weather stays", 10 * x.sky(0) + x.sky(1), 1);
            CHECKS.due("its names stay", x.letter(0, 0, 0), 1);
            CHECKS.due("its coin stays", x.coax(0, 1), 22);
            CHECKS.due("its dread stays", x.dread(0, 2, -1), 20);
            CHECKS.due("its acts can be undone", x.undo() && x.undo() && x.undo(), true);
            CHECKS.due("as they were", x.boat(1, 1), 19);
        }
    }

    private static void lakeWithoutStatement() {
        CHECKS.holds("Promise 4", "one without a STATEMENT has FAULT 1 at its length).");
        CHECKS.faultyLake(1, "|");
        CHECKS.faultyLake(1, " |");
        CHECKS.faultyLake(1, " \n \n|");
        CHECKS.faultyLake(1, " ".repeat(1600) + "|");
        ShyBoats x = busy();
        CHECKS.refused("none", x, 1, x::lake);
        CHECKS.due("its fault", x.fault(0), 1);
        CHECKS.due("at its length", x.fault(1), 0);
    }

    private static void lakeAnew() {
        CHECKS.holds("Promise 4", "Without one all is as at first, nothing is KEPT, no TRIALS are told, nothing can be undone;");
        ShyBoats x = busy();
        CHECKS.due("the same text again", Checks.lake(x, LAKE), 10);
        CHECKS.due("all is as at first", Checks.stateOf(x).equals(Checks.stateOf(Checks.onLake(LAKE))), true);
        CHECKS.due("hour", x.has(4), 0);
        CHECKS.due("coins", x.has(6), 0);
        CHECKS.due("nothing kept", x.has(9), 0);
        CHECKS.due("nothing kept", x.kept(0, 0), -1);
        CHECKS.due("no trials", x.has(10), 0);
        CHECKS.due("no trusts", x.trusts(0), -1);
        CHECKS.due("nothing can be undone", x.has(11), 0);
        CHECKS.due("nothing can be undone", x.undo(), false);
        CHECKS.due("no hand", x.hand(1, 1), -1);
        ShyBoats y = Checks.onLake(LAKE + "dread 50;grows 60;falls 70;storm at 5;");
        Checks.lake(y, "lake 3;row hsd;row slh;boat a trust 15 at 0 0;hand m skill 2;");
        CHECKS.due("nothing of the other's likes", y.likes(0, 0), 0);
        CHECKS.due("nor of its weather", y.sky(99), 0);
        CHECKS.due("nor of its coin", y.coax(0, 1), 20);
        CHECKS.due("nor of its dread", y.dread(0, 1, -1), 10);
        CHECKS.due("nor of its grows", y.go(0, 1) * 100 + y.boat(0, 1), 120);
        y.coax(0, 0);
        ShyBoats z = Checks.onLake(LAKE + "falls 70;");
        Checks.lake(z, LAKE);
        CHECKS.due("nor of its falls", z.go(1, 1) * 100 + z.boat(1, 1), 5);
    }

    private static String richText() {
        StringBuilder text = new StringBuilder("lake 8;").append("row hhhhhhhh;".repeat(6));
        for (int i = 0; i < 6; i++) {
            char boat = (char) ('a' + i);
            char hand = (char) ('m' + i);
            text.append("boat ").append(boat).append(" trust 9 at 7 5;hand ").append(hand).append(" skill 9;");
            text.append("likes a ").append(hand).append(" 9;likes ").append(boat).append(" m 9;");
        }
        for (int hour = 0; hour < 10; hour++) {
            text.append("storm at ").append(hour).append(';');
        }
        return text.append("dread 50;grows 60;falls 70;coax 50;").toString();
    }

    /** However many LAKES and faulty texts there were, nothing of them is left in the next one. */
    private static void lakeBehindOthers() {
        CHECKS.holds("Promise 4", "Without one all is as at first,");
        String plain = "lake 3;row hsd;row slh;boat a trust 15 at 0 0;hand m skill 2;fog at 5;";
        String rich = richText();
        String faulty = rich + "x";
        String[][] others = {{rich}, {rich, rich}, {rich, rich, rich}, {faulty}, {faulty, faulty}, {rich, faulty}, {faulty, rich}, {plain, faulty},
            {plain, rich}, {rich, plain, faulty}, {rich, faulty, rich}};
        for (String[] row : others) {
            ShyBoats x = new ShyBoats();
            for (String text : row) {
                CHECKS.due("statements", Checks.lake(x, text), text.equals(rich) ? 45 : text.equals(plain) ? 6 : -1);
            }
            CHECKS.due("statements", Checks.lake(x, plain), 6);
            CHECKS.due("all is as at first", Checks.stateOf(x).equals(Checks.stateOf(Checks.onLake(plain))), true);
            CHECKS.due("likes", x.likes(0, 0), 0);
            CHECKS.due("sky", 100 * x.sky(0) + 10 * x.sky(4) + x.sky(5), 2);
            CHECKS.due("dread", x.dread(0, 2, -1), 20);
            CHECKS.due("coin", x.coax(0, 1), 20);
            x.undo();
            CHECKS.due("goes", x.go(0, 1), 1);
            CHECKS.due("grows not", x.boat(0, 1), 15);
            CHECKS.due("balks", x.go(0, 2), 0);
            CHECKS.due("falls not", x.boat(0, 1), 15);
            CHECKS.due("cells", x.cell(6, 0), -1);
            CHECKS.due("home", x.cell(2, 2), 1);
        }
    }

    private static void seedStaysWithALake() {
        CHECKS.holds("Promise 4", "the seed stays.");
        // of seed 0 the first way is up, then right; of seed 1, that of a new object, down
        ShyBoats x = Checks.onLake(WIDE);
        x.seed(0);
        Checks.lake(x, WIDE);
        x.drift(1);
        CHECKS.due("up", x.boat(0, 0), 1);
        Checks.lake(x, "lake 3;row");
        Checks.lake(x, WIDE);
        x.drift(1);
        CHECKS.due("right", x.boat(0, 0), 5);
        ShyBoats y = new ShyBoats();
        y.seed(0);
        Checks.lake(y, WIDE);
        y.drift(1);
        CHECKS.due("of one ahead of any lake, up", y.boat(0, 0), 1);
    }

    private static void faultTold() {
        CHECKS.holds("Promise 5", "Of the latest lake() or ask(): its FAULT (what 0; 0 without, and ahead of any), its place (1; NONE without).");
        ShyBoats x = new ShyBoats();
        told("ahead of any", x, 0, -1);
        Checks.ask(x, 0, "often");
        told("ahead of any that does something", x, 0, -1);
        Checks.lake(x, "lake 2;");
        told("of a lake", x, 2, 5);
        Checks.ask(x, 0, "often");
        told("of a lake, as no boat was asked", x, 2, 5);
        Checks.lake(x, LAKE);
        told("without", x, 0, -1);
        Checks.ask(x, 0, "often ");
        told("of a question", x, 1, 6);
        Checks.ask(x, 0, "often not not not not not not not");
        told("of a deeper one", x, 4, 30);
        Checks.lake(x, "lake 3;hand a skill 1;hand a");
        told("of the lake behind it", x, 3, 27);
        Checks.ask(x, 1, "often all");
        told("without, of a question", x, 0, -1);
        Checks.lake(x, "lake 3;grows 1;grows");
        told("of the latest", x, 5, 15);
        x.go(0, 1);
        Checks.trials(x, 0);
        Checks.file(x, 0);
        x.undo();
        x.undo();
        told("of other calls nothing", x, 5, 15);
    }

    private static void told(String what, ShyBoats x, int fault, int place) {
        CHECKS.due(what, x.fault(0), fault);
        CHECKS.due(what + ", place", x.fault(1), place);
    }

    private static void faultOfAnotherWhat() {
        CHECKS.holds("Promise 5", "NONE for another what.");
        ShyBoats x = new ShyBoats();
        ShyBoats y = new ShyBoats();
        Checks.lake(y, "lake 2;");
        ShyBoats z = Checks.onLake(LAKE);
        for (int what : OTHERS) {
            CHECKS.due("ahead of any, " + what, x.fault(what), -1);
            CHECKS.due("of a faulty one, " + what, y.fault(what), -1);
            CHECKS.due("of a good one, " + what, z.fault(what), -1);
        }
    }
}
