import java.util.Arrays;

/** Promises 33 to 36, term IV's IMAGE and the constants, sentence by sentence. */
public final class EdgesImageTest {
    private static final Checks CHECKS = new Checks();
    private static final int LOW = Integer.MIN_VALUE;
    private static final int HIGH = Integer.MAX_VALUE;
    private static final String LAKE = "lake 3;row hsd;row wlh;boat a trust 15 at 0 0;boat b trust 5 at 2 1;hand m skill 3;hand n skill 9;";

    public static void main(String[] args) {
        constants();
        bytes();
        seal();
        written();
        octets();
        noOctets();
        on();
        onAgain();
        noImage();
        bounds();
        cells();
        hands();
        noLake();
        statusTold();
        statusOfOthers();
        CHECKS.finish();
    }

    private static void image(String what, ShyBoats x, int... due) {
        int[] sealed = Checks.sealed(due);
        CHECKS.due(what + ", bytes", x.image(), sealed.length);
        for (int k = 0; k < sealed.length; k++) {
            CHECKS.due(what + ", byte " + k, x.octet(k), sealed[k]);
        }
    }

    private static void constants() {
        CHECKS.holds("Constants", "There is none; it is refused.");
        CHECKS.due("NONE", ShyBoats.NONE, -1);
        CHECKS.due("there is none", new ShyBoats().boat(0, 0), ShyBoats.NONE);
        CHECKS.due("it is refused", new ShyBoats().go(0, 0), ShyBoats.NONE);
        CHECKS.holds("Constants", "Told where a number below 0 may be one.");
        CHECKS.due("NOTHING", ShyBoats.NOTHING, -1000000000000000L);
        ShyBoats x = Checks.onLake(LAKE);
        CHECKS.due("-1 is an answer", Checks.ask(x, 0, "most 0-1"), -1);
        CHECKS.due("none is not", Checks.ask(x, 0, "most"), -1000000000000000L);
    }

    private static void bytes() {
        CHECKS.holds("IV", "AN IMAGE: HOUR (two bytes, the higher first), coins paid (three bytes); for each BOAT its CELL, trust, how often it balked, its HAND and 1 (0 none);");
        ShyBoats x = Checks.onLake(LAKE);
        image("at first", x, 0, 0, 0, 0, 0, 0, 15, 0, 0, 5, 5, 0, 0);
        x.hours(200);
        x.hours(55);
        image("hour 255", x, 0, 255, 0, 0, 0, 0, 15, 0, 0, 5, 5, 0, 0);
        x.hours(1);
        image("hour 256", x, 1, 0, 0, 0, 0, 0, 15, 0, 0, 5, 5, 0, 0);
        x.coax(0, 99);
        x.coax(0, 99);
        x.coax(0, 57);
        image("255 coins", x, 1, 0, 0, 0, 255, 0, 99, 0, 0, 5, 5, 0, 0);
        x.coax(0, 1);
        image("256 coins", x, 1, 0, 0, 1, 0, 0, 99, 0, 0, 5, 5, 0, 0);
        x.go(0, 3);
        x.go(1, 2);
        x.man(0, 1);
        x.man(1, 0);
        image("both, and their hands", x, 1, 0, 0, 1, 0, 3, 99, 0, 2, 5, 5, 1, 1);
        Checks.on(x, Checks.sealed(3, 231, 0, 255, 255, 3, 99, 99, 2, 5, 99, 99, 1));
        image("65535 coins", x, 3, 231, 0, 255, 255, 3, 99, 99, 2, 5, 99, 99, 1);
        x.coax(0, 1);
        image("65536 coins", x, 3, 231, 1, 0, 0, 3, 99, 99, 2, 5, 99, 99, 1);
        Checks.on(x, Checks.sealed(3, 231, 15, 66, 63, 3, 99, 99, 2, 5, 99, 99, 1));
        image("the most", x, 3, 231, 15, 66, 63, 3, 99, 99, 2, 5, 99, 99, 1);
    }

    private static void seal() {
        CHECKS.holds("IV", "last a byte: all ahead from 241 on, c = (3 c + it) mod 251.");
        ShyBoats x = Checks.onLake("lake 3;");
        // 241, 221, 161, 232, 194, 80 by five bytes of 0
        CHECKS.due("bytes", x.image(), 6);
        CHECKS.due("its last", x.octet(5), 80);
        x.hours(1);
        x.image();
        // 221, (663 + 1) mod 251 = 162, 235, 203, 107
        CHECKS.due("of hour 1", x.octet(5), 107);
        for (int last = 0; last < 256; last++) {
            int[] bytes = {0, 1, 0, 0, 0, last};
            CHECKS.due("last byte " + last, Checks.on(Checks.onLake("lake 3;"), bytes), last == 107);
        }
    }

    private static void written() {
        CHECKS.holds("Promise 33", "AN IMAGE is written: how many bytes.");
        StringBuilder text = new StringBuilder("lake 3;row hhh;");
        CHECKS.due("without a lake", new ShyBoats().image(), 6);
        for (int boats = 0; boats <= 6; boats++) {
            ShyBoats x = Checks.onLake(text.toString());
            String before = Checks.stateOf(x);
            CHECKS.due(boats + " boats", x.image(), 6 + 4 * boats);
            CHECKS.due("nothing changes", Checks.stateOf(x).equals(before), true);
            text.append("boat ").append((char) ('a' + boats)).append(" trust 9 at 0 0;");
        }
    }

    private static void octets() {
        CHECKS.holds("Promise 34", "Byte k of the latest image();");
        ShyBoats x = Checks.onLake(LAKE);
        x.image();
        CHECKS.due("trust", x.octet(6), 15);
        x.coax(0, 1);
        CHECKS.due("of the latest yet", x.octet(6), 15);
        x.image();
        CHECKS.due("of the latest now", x.octet(6), 20);
        CHECKS.due("the first", x.octet(0), 0);
        x.undo();
        CHECKS.due("undone, it stays", x.octet(6), 20);
        Checks.lake(x, "lake 3;");
        CHECKS.due("another lake, it stays", x.octet(6), 20);
        CHECKS.due("its last byte", x.octet(13) >= 0, true);
        x.image();
        CHECKS.due("a shorter one", x.octet(5), 80);
        CHECKS.due("has no more", x.octet(6), -1);
    }

    private static void noOctets() {
        CHECKS.holds("Promise 34", "NONE when there is none such.");
        for (int k : new int[] {-1, 0, 1, 5, 29, 30, LOW, HIGH}) {
            CHECKS.due("ahead of any, " + k, new ShyBoats().octet(k), -1);
            CHECKS.due("ahead of any with a lake, " + k, Checks.onLake(LAKE).octet(k), -1);
        }
        ShyBoats x = Checks.onLake(LAKE);
        x.image();
        for (int k : new int[] {-1, 14, 15, 29, 30, LOW, HIGH}) {
            CHECKS.due("byte " + k, x.octet(k), -1);
        }
        StringBuilder text = new StringBuilder("lake 3;row hhh;");
        for (int boat = 0; boat < 6; boat++) {
            text.append("boat ").append((char) ('a' + boat)).append(" trust 9 at 0 0;");
        }
        ShyBoats six = Checks.onLake(text.toString());
        six.image();
        CHECKS.due("the last of six boats", six.octet(29) >= 0, true);
        CHECKS.due("no more", six.octet(30), -1);
    }

    private static ShyBoats busy() {
        ShyBoats x = Checks.onLake(LAKE);
        x.go(0, 1);
        x.man(1, 1);
        x.hours(2);
        x.coax(0, 1);
        return x;
    }

    private static void on() {
        CHECKS.holds("Promise 35", "The tape (it goes) is AN IMAGE of this LAKE: true, all is as it tells, nothing is KEPT or can be undone;");
        ShyBoats x = busy();
        Checks.trials(x, 0, 1, 1);
        CHECKS.due("on", Checks.on(x, Checks.sealed(1, 44, 1, 2, 3, 3, 99, 98, 0, 1, 0, 97, 1)), true);
        CHECKS.gone("on", x);
        int[] has = {3, 2, 2, 2, 300, 0, 66051, 195, 99, 0, 1, 0};
        for (int what = 0; what < has.length; what++) {
            CHECKS.due("has " + what, x.has(what), has[what]);
        }
        int[][] boats = {{3, 99, 98, -1, 15}, {1, 0, 97, 0, 5}};
        for (int boat = 0; boat < 2; boat++) {
            for (int what = 0; what < 5; what++) {
                CHECKS.due("boat " + boat + ", " + what, x.boat(boat, what), boats[boat][what]);
            }
        }
        CHECKS.due("hand m", x.hand(0, 1), 1);
        CHECKS.due("hand n", x.hand(1, 1), -1);
        CHECKS.due("nothing kept", x.kept(0, 0), -1);
        CHECKS.due("nothing can be undone", x.undo(), false);
        CHECKS.due("nothing refused", x.status(5), 0);
        x.go(1, 0);
        CHECKS.due("a try then", x.kept(0, 0), 300);
        CHECKS.due("the only one", x.has(9), 1);
        CHECKS.due("it can be undone", x.undo(), true);
        CHECKS.due("up to the image", x.boat(1, 0), 1);
        CHECKS.due("a lake of nothing", Checks.on(Checks.onLake("lake 3;"), Checks.sealed(0, 0, 0, 0, 0)), true);
    }

    private static void onAgain() {
        CHECKS.holds("Promise 35", "true, all is as it tells,");
        ShyBoats x = busy();
        int[] image = Checks.imageOf(x);
        x.drift(20);
        x.man(0, 1);
        CHECKS.due("on", Checks.on(x, image), true);
        CHECKS.due("the same again", Arrays.equals(Checks.imageOf(x), image), true);
        ShyBoats y = Checks.onLake(LAKE);
        CHECKS.due("on another object", Checks.on(y, image), true);
        CHECKS.due("the same there", Arrays.equals(Checks.imageOf(y), image), true);
        ShyBoats z = Checks.onLake("lake 3;row hhh;row hhh;boat x trust 9 at 0 0;boat y trust 9 at 0 0;hand v skill 1;hand w skill 1;");
        CHECKS.due("of a lake of the same size, which it can be, too", Checks.on(z, image), true);
    }

    /** An image that is one, but for some bytes: place, octet, place, octet. */
    private static int[] with(int... changes) {
        int[] bytes = {0, 10, 0, 0, 7, 0, 15, 0, 1, 5, 5, 0, 2};
        for (int i = 0; i + 1 < changes.length; i += 2) {
            bytes[changes[i]] = changes[i + 1];
        }
        return Checks.sealed(bytes);
    }

    private static void refused(String what, int[] bytes) {
        ShyBoats x = busy();
        CHECKS.refusedFlag(what, x, 5, () -> Checks.on(x, bytes));
        CHECKS.gone(what, x);
        CHECKS.due(what + ": its acts can be undone", x.undo() && x.undo() && x.undo() && x.undo(), true);
    }

    private static void accepted(String what, int[] bytes) {
        ShyBoats x = busy();
        CHECKS.due(what, Checks.on(x, bytes), true);
        CHECKS.due(what + ": as it tells", Arrays.equals(Checks.imageOf(x), bytes), true);
    }

    private static void noImage() {
        CHECKS.holds("Promise 35", "false, refused (5), when it is none");
        accepted("one", with());
        refused("empty", new int[0]);
        refused("one byte", new int[] {241});
        refused("a seal alone", Checks.sealed());
        refused("no boats", Checks.sealed(0, 10, 0, 0, 7));
        refused("one boat", Checks.sealed(0, 10, 0, 0, 7, 0, 15, 0, 1));
        refused("a byte too few", Checks.sealed(Arrays.copyOf(with(), 12)));
        refused("without its seal", Arrays.copyOf(with(), 13));
        refused("a byte too many", Checks.sealed(Arrays.copyOf(with(), 14)));
        refused("a byte of 0 behind it", Arrays.copyOf(with(), 15));
        refused("three boats", Checks.sealed(0, 10, 0, 0, 7, 0, 15, 0, 1, 5, 5, 0, 2, 0, 0, 0, 0));
        for (int by : new int[] {1, 2, 250}) {
            int[] broken = with();
            broken[13] = (broken[13] + by) % 251;
            refused("its seal is off by " + by, broken);
        }
        int[] full = new int[1600];
        refused("a full tape", full);
    }

    private static void bounds() {
        CHECKS.holds("Promise 35", "(HOURS 999, coins 999999, trust, balks 99 at most;");
        accepted("hour 0", with(1, 0));
        accepted("hour 999", with(0, 3, 1, 231));
        refused("hour 1000", with(0, 3, 1, 232));
        refused("hour 1024", with(0, 4, 1, 0));
        refused("hour 65535", with(0, 255, 1, 255));
        accepted("coins 999999", with(2, 15, 3, 66, 4, 63));
        refused("coins 1000000", with(2, 15, 3, 66, 4, 64));
        refused("coins 1048576", with(2, 16, 3, 0, 4, 0));
        refused("coins 16777215", with(2, 255, 3, 255, 4, 255));
        for (int boat = 0; boat < 2; boat++) {
            accepted("trust 0 of " + boat, with(6 + 4 * boat, 0));
            accepted("trust 99 of " + boat, with(6 + 4 * boat, 99));
            refused("trust 100 of " + boat, with(6 + 4 * boat, 100));
            refused("trust 255 of " + boat, with(6 + 4 * boat, 255));
            accepted("balks 99 of " + boat, with(7 + 4 * boat, 99));
            refused("balks 100 of " + boat, with(7 + 4 * boat, 100));
            refused("balks 255 of " + boat, with(7 + 4 * boat, 255));
        }
    }

    private static void cells() {
        CHECKS.holds("Promise 35", "CELLS that there are, no land;");
        for (int boat = 0; boat < 2; boat++) {
            for (int cell : new int[] {0, 1, 2, 3, 5}) {
                accepted("cell " + cell + " of " + boat, with(5 + 4 * boat, cell));
            }
            for (int cell : new int[] {4, 6, 47, 48, 255}) {
                refused("cell " + cell + " of " + boat, with(5 + 4 * boat, cell));
            }
        }
        accepted("both in one", with(5, 2, 9, 2));
    }

    private static void hands() {
        CHECKS.holds("Promise 35", "HANDS that there are, none in two BOATS),");
        accepted("none in both", with(8, 0, 12, 0));
        accepted("none in the first", with(8, 0, 12, 1));
        accepted("the other way", with(8, 2, 12, 1));
        refused("the third of two", with(8, 3));
        refused("the third of two", with(12, 3));
        refused("the sixth", with(12, 6));
        refused("the seventh", with(12, 7));
        refused("33, whose bit is that of 1", with(8, 0, 12, 33));
        refused("255", with(8, 255));
        refused("255", with(12, 255));
        refused("the first in both", with(8, 1, 12, 1));
        refused("the second in both", with(8, 2, 12, 2));
        ShyBoats none = Checks.onLake("lake 3;row hhh;boat a trust 9 at 0 0;");
        CHECKS.due("no hands", Checks.on(none, Checks.sealed(0, 0, 0, 0, 0, 0, 9, 0, 1)), false);
        CHECKS.due("none of none", Checks.on(none, Checks.sealed(0, 0, 0, 0, 0, 0, 9, 0, 0)), true);
    }

    private static void noLake() {
        CHECKS.holds("Promise 35", "or there is no lake, all staying.");
        ShyBoats x = new ShyBoats();
        CHECKS.refusedFlag("no lake", x, 5, () -> Checks.on(x, Checks.sealed(0, 0, 0, 0, 0)));
        CHECKS.gone("no lake", x);
        CHECKS.refusedFlag("its own image", x, 5, () -> Checks.on(x, Checks.imageOf(x)));
        CHECKS.refusedFlag("of an hour", x, 5, () -> Checks.on(x, Checks.sealed(0, 7, 0, 0, 0)));
        refused("all staying", with(6, 100));
    }

    private static void count(String what, ShyBoats x, int... due) {
        CHECKS.due(what + " is " + Arrays.toString(Checks.refusalsOf(x)), Arrays.equals(Checks.refusalsOf(x), due), true);
    }

    private static void statusTold() {
        CHECKS.holds("Promise 36", "How many were refused: 0 feed(), end(); 1 lake(), trials(); 2 go(), file(); 3 coax(), man(), hours(), drift(); 4 undo(); 5 seed(), on().");
        ShyBoats x = Checks.onLake(LAKE);
        count("at first", x, 0, 0, 0, 0, 0, 0);
        x.end(-1);
        count("end", x, 1, 0, 0, 0, 0, 0);
        for (int n = 0; n < 80; n++) {
            x.feed(0, 0, 0, 0, 0);
        }
        x.feed(0, 0, 0, 0, 0);
        count("feed", x, 2, 0, 0, 0, 0, 0);
        x.lake();
        count("lake", x, 2, 1, 0, 0, 0, 0);
        x.trials(0);
        count("trials", x, 2, 2, 0, 0, 0, 0);
        x.go(0, 0);
        count("go", x, 2, 2, 1, 0, 0, 0);
        x.file(1);
        count("file", x, 2, 2, 2, 0, 0, 0);
        x.coax(0, 0);
        count("coax", x, 2, 2, 2, 1, 0, 0);
        x.man(0, -1);
        count("man", x, 2, 2, 2, 2, 0, 0);
        x.hours(0);
        count("hours", x, 2, 2, 2, 3, 0, 0);
        x.drift(0);
        count("drift", x, 2, 2, 2, 4, 0, 0);
        x.undo();
        count("undo", x, 2, 2, 2, 4, 1, 0);
        x.seed(-1);
        count("seed", x, 2, 2, 2, 4, 1, 1);
        x.on();
        count("on", x, 2, 2, 2, 4, 1, 2);
        // what is told NONE elsewhere is not refused, nor is a FAULT of ask()
        x.has(12);
        x.route(0, 9, 9);
        x.order(0, 0, 0);
        x.lead(0, 0, 0);
        x.match(9);
        x.trusts(0);
        x.next(0);
        x.octet(0);
        x.ask(0);
        x.ask(9);
        x.fault(9);
        x.status(9);
        count("others", x, 2, 2, 2, 4, 1, 2);
        // nor what was done
        x.go(0, 1);
        x.go(0, 2);
        Checks.on(x, Checks.imageOf(x));
        x.seed(0);
        Checks.lake(x, LAKE);
        count("good ones, and a new lake forgets none", x, 2, 2, 2, 4, 1, 2);
    }

    private static void statusOfOthers() {
        CHECKS.holds("Promise 36", "NONE for others.");
        for (int what : new int[] {-1, 6, 7, LOW, HIGH}) {
            CHECKS.due("status " + what, new ShyBoats().status(what), -1);
            CHECKS.due("status " + what + " on a lake", Checks.onLake(LAKE).status(what), -1);
        }
    }
}
