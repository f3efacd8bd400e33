/** Promises 1, 2, 3, 36. */
public final class TapeTest {
    private static final Checks CHECKS = new Checks();

    public static void main(String[] args) {
        newObject();
        feeding();
        ending();
        refusals();
        CHECKS.finish();
    }

    private static void newObject() {
        ShyBoats x = new ShyBoats();
        for (int what = 0; what < 12; what++) {
            CHECKS.due("new has " + what, x.has(what), 0);
        }
        CHECKS.due("new fault", x.fault(0), 0);
        CHECKS.due("new place", x.fault(1), -1);
        CHECKS.due("new image", x.octet(0), -1);
        CHECKS.due("no lake to go on", Checks.on(x, Checks.sealed(0, 0, 0, 0, 0)), false);
        CHECKS.due("a lake of one statement", Checks.lake(x, "lake 3;"), 1);
        CHECKS.due("then it goes on", Checks.on(x, Checks.sealed(0, 7, 0, 0, 0)), true);
        CHECKS.due("to its hour", x.has(4), 7);
    }

    private static void feeding() {
        ShyBoats x = new ShyBoats();
        for (int i = 1; i <= 80; i++) {
            CHECKS.due("feed " + i, x.feed(-1, 0, 0, 0, i), 20 * i);
        }
        CHECKS.due("feed 81", x.feed(0, 0, 0, 0, 0), -1);
        CHECKS.due("it stays", x.end(1600), true);
        CHECKS.due("not more than it has", x.end(1601), false);
        CHECKS.due("less", x.end(1581), true);
        CHECKS.due("1601 are too many", x.feed(0, 0, 0, 0, 0), -1);
        CHECKS.due("less by one", x.end(1580), true);
        CHECKS.due("1600 are not", x.feed(0, 0, 0, 0, 0), 1600);
        CHECKS.due("refused", x.status(0), 3);
        // the highest byte first: "lake 3;" and blanks
        x.end(0);
        x.feed(0x6c616b65, 0x20333b20, 0x20202020, 0x20202020, 0x20202020);
        CHECKS.due("bytes in their order", x.lake(), 1);
        x.feed(0x6c616b65, 0x20333bff, 0x20202020, 0x20202020, 0x20202020);
        CHECKS.due("a byte of 255", x.lake(), -1);
        CHECKS.due("is at 7", x.fault(1), 7);
    }

    private static void ending() {
        ShyBoats x = new ShyBoats();
        CHECKS.due("end below 0", x.end(-1), false);
        CHECKS.due("end of none", x.end(0), true);
        CHECKS.due("end of too many", x.end(1), false);
        x.feed(0, 0, 0, 0, 0);
        CHECKS.due("end 20", x.end(20), true);
        CHECKS.due("end 5", x.end(5), true);
        CHECKS.due("end 6", x.end(6), false);
        CHECKS.due("lowest", x.end(Integer.MIN_VALUE), false);
        CHECKS.due("highest", x.end(Integer.MAX_VALUE), false);
        CHECKS.due("then feed", x.feed(0, 0, 0, 0, 0), 25);
        CHECKS.due("refused", x.status(0), 5);
    }

    private static void refusals() {
        ShyBoats x = Checks.onLake("lake 3;row hsd;boat a trust 9 at 0 0;hand m skill 1;");
        x.end(-1);
        Checks.lake(x, "lake");
        Checks.trials(x, 0);
        x.go(0, 2);
        x.go(1, 1);
        Checks.file(x, 1);
        x.coax(0, 0);
        x.man(0, -1);
        x.hours(0);
        x.drift(0);
        x.undo();
        x.seed(-5);
        Checks.on(x, 1, 2, 3);
        int[] due = {1, 2, 3, 4, 1, 2};
        for (int what = 0; what < 6; what++) {
            CHECKS.due("status " + what, x.status(what), due[what]);
        }
        CHECKS.due("status -1", x.status(-1), -1);
        CHECKS.due("status 6", x.status(6), -1);
        Checks.ask(x, 3, "often all");
        Checks.ask(x, 0, "often");
        x.go(0, 1);
        CHECKS.due("asking and going refuse nothing", x.status(1) + x.status(2), 5);
        Checks.lake(x, "lake 3;");
        CHECKS.due("a lake forgets no refusal", x.status(3), 4);
    }
}
