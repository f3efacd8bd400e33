/** Promises 33, 34, 35. */
public final class ImageTest {
    private static final Checks CHECKS = new Checks();
    private static final String LAKE = "lake 3;row hsd;row wlh;boat a trust 15 at 0 0;boat b trust 5 at 2 1;hand m skill 3;hand n skill 9;";

    public static void main(String[] args) {
        written();
        sixBoats();
        readBack();
        refused();
        CHECKS.finish();
    }

    private static void written() {
        ShyBoats x = Checks.onLake(LAKE);
        CHECKS.due("none yet", x.octet(0), -1);
        image("at first", x, Checks.sealed(0, 0, 0, 0, 0, 0, 15, 0, 0, 5, 5, 0, 0));
        x.hours(200);
        x.hours(100);
        for (int n = 0; n < 7; n++) {
            x.coax(0, 99);
        }
        x.go(0, 1);
        x.go(0, 2);
        x.go(1, 2);
        x.man(1, 1);
        CHECKS.due("the latest stays", x.octet(6), 15);
        image("later", x, Checks.sealed(1, 44, 0, 2, 181, 2, 99, 0, 0, 5, 5, 1, 2));
        Checks.lake(x, "lake 3;");
        CHECKS.due("the latest stays", x.octet(1), 44);
        CHECKS.due("without boats", x.image(), 6);
        CHECKS.due("no more", x.octet(6), -1);
    }

    private static void sixBoats() {
        StringBuilder text = new StringBuilder("lake 8;");
        for (int row = 0; row < 6; row++) {
            text.append("row hhhhhhhh;");
        }
        int[] due = new int[29];
        for (int boat = 0; boat < 6; boat++) {
            char name = (char) ('a' + boat);
            text.append("boat ").append(name).append(" trust ").append(99 - boat).append(" at ").append(7 - boat).append(" 5;");
            text.append("hand ").append(name).append("h skill ").append(boat).append(';');
            due[5 + 4 * boat] = 47 - boat;
            due[6 + 4 * boat] = 99 - boat;
            due[8 + 4 * boat] = 6 - boat;
        }
        ShyBoats x = Checks.onLake(text.toString());
        for (int boat = 0; boat < 6; boat++) {
            x.man(boat, 5 - boat);
        }
        image("six boats", x, Checks.sealed(due));
        ShyBoats y = Checks.onLake(text.toString());
        CHECKS.due("six boats on", Checks.on(y, Checks.sealed(due)), true);
        image("six boats again", y, Checks.sealed(due));
    }

    private static void image(String what, ShyBoats x, int[] due) {
        CHECKS.due(what + " bytes", x.image(), due.length);
        for (int k = 0; k < due.length; k++) {
            CHECKS.due(what + " octet " + k, x.octet(k), due[k]);
        }
        CHECKS.due("behind it", x.octet(due.length), -1);
        CHECKS.due("ahead of it", x.octet(-1), -1);
        CHECKS.due("highest", x.octet(Integer.MAX_VALUE), -1);
        CHECKS.due("lowest", x.octet(Integer.MIN_VALUE), -1);
    }

    private static void readBack() {
        ShyBoats x = Checks.onLake(LAKE);
        x.go(0, 1);
        x.seed(5);
        int[] most = Checks.sealed(3, 231, 15, 66, 63, 3, 99, 99, 2, 1, 0, 98, 1);
        CHECKS.due("on", Checks.on(x, most), true);
        CHECKS.due("the tape goes", x.end(1), false);
        int[] has = {3, 2, 2, 2, 999, 0, 999999, 197, 99, 0, 0, 0};
        for (int what = 0; what < has.length; what++) {
            CHECKS.due("has " + what, x.has(what), has[what]);
        }
        int[][] boats = {{3, 99, 99, 1, 15}, {1, 0, 98, 0, 5}};
        for (int boat = 0; boat < 2; boat++) {
            for (int what = 0; what < 5; what++) {
                CHECKS.due("boat " + boat + " " + what, x.boat(boat, what), boats[boat][what]);
            }
        }
        CHECKS.due("nothing can be undone", x.undo(), false);
        CHECKS.due("nothing is kept", x.kept(0, 0), -1);
        image("again", x, most);
        theSeedStays();
    }

    private static void theSeedStays() {
        for (int seed = 2; seed < 40; seed++) {
            ShyBoats x = Checks.onLake(LAKE);
            ShyBoats y = Checks.onLake(LAKE);
            x.seed(seed);
            CHECKS.due("on", Checks.on(x, with(-1, 0)), true);
            Checks.on(y, with(-1, 0));
            y.seed(seed);
            CHECKS.due("the seed stays", x.drift(9), y.drift(9));
            CHECKS.due("all alike", java.util.Arrays.equals(Checks.imageOf(x), Checks.imageOf(y)), true);
        }
    }

    private static int[] with(int place, int octet) {
        int[] bytes = {0, 10, 0, 0, 7, 0, 15, 0, 1, 5, 5, 0, 2};
        if (place >= 0) {
            bytes[place] = octet;
        }
        return Checks.sealed(bytes);
    }

    private static void refused() {
        ShyBoats x = Checks.onLake(LAKE);
        x.go(0, 1);
        int[][] wrong = {with(0, 4), {}, {1}, Checks.sealed(0, 0, 0, 0, 0), Checks.sealed(0, 0, 0, 0, 0, 0, 15, 0, 0),
            Checks.sealed(0, 10, 0, 0, 7, 0, 15, 0, 1, 5, 5, 0, 2, 0), with(2, 16), with(5, 4), with(5, 6), with(5, 255), with(6, 100),
            with(7, 100), with(8, 3), with(8, 2), with(12, 1), with(12, 255), with(9, 4), with(10, 100), with(11, 100),
            Checks.sealed(3, 232, 0, 0, 7, 0, 15, 0, 1, 5, 5, 0, 2), Checks.sealed(0, 10, 15, 66, 64, 0, 15, 0, 1, 5, 5, 0, 2)};
        for (int i = 0; i < wrong.length; i++) {
            CHECKS.due("no image " + i, Checks.on(x, wrong[i]), false);
            CHECKS.due("the tape goes " + i, x.end(1), false);
        }
        int[] broken = with(-1, 0);
        broken[13] = (broken[13] + 1) % 251;
        CHECKS.due("no seal", Checks.on(x, broken), false);
        CHECKS.due("refused", x.status(5), wrong.length + 1);
        CHECKS.due("all stays", x.boat(0, 0), 1);
        CHECKS.due("an act", x.has(11), 1);
        CHECKS.due("kept", x.has(9), 1);
        CHECKS.due("hour", x.has(4), 0);
        CHECKS.due("good", Checks.on(x, with(-1, 0)), true);
        CHECKS.due("none in none, twice", Checks.on(x, Checks.sealed(0, 0, 0, 0, 0, 0, 0, 0, 0, 0, 0, 0, 0)), true);
        CHECKS.due("no lake", Checks.on(new ShyBoats(), Checks.sealed(0, 0, 0, 0, 0)), false);
    }
}
