/** What all tests share: texts onto a tape, answers against what is due. */
final class Checks {
    static final int NONE = ShyBoats.NONE;
    private int wrong;
    private int done;

    void due(String what, long got, long want) {
        done++;
        if (got != want) {
            wrong++;
            System.out.println(what + " answered " + got + ", due is " + want);
        }
    }

    void due(String what, boolean got, boolean want) {
        due(what, got ? 1 : 0, want ? 1 : 0);
    }

    void finish() {
        System.out.println(done + " answers, " + wrong + " not as due");
        if (wrong != 0 || done == 0) {
            System.exit(1);
        }
    }

    /** Puts bytes behind those on an empty tape. */
    static void tape(ShyBoats x, int... bytes) {
        for (int from = 0; from < bytes.length; from += 20) {
            int[] five = new int[5];
            for (int i = 0; i < 20; i++) {
                int octet = from + i < bytes.length ? bytes[from + i] & 255 : 0;
                five[i / 4] |= octet << 24 - 8 * (i % 4);
            }
            x.feed(five[0], five[1], five[2], five[3], five[4]);
        }
        x.end(bytes.length);
    }

    static void text(ShyBoats x, String text) {
        tape(x, text.chars().toArray());
    }

    static int lake(ShyBoats x, String text) {
        text(x, text);
        return x.lake();
    }

    static ShyBoats onLake(String text) {
        ShyBoats x = new ShyBoats();
        if (lake(x, text) == NONE) {
            throw new IllegalStateException("fault " + x.fault(0) + " at " + x.fault(1) + " of " + text);
        }
        return x;
    }

    static long ask(ShyBoats x, int boat, String text) {
        text(x, text);
        return x.ask(boat);
    }

    static int file(ShyBoats x, int cell, int... boats) {
        tape(x, boats);
        return x.file(cell);
    }

    static int trials(ShyBoats x, int boat, int... rows) {
        tape(x, rows);
        return x.trials(boat);
    }

    static boolean on(ShyBoats x, int... bytes) {
        tape(x, bytes);
        return x.on();
    }

    static int[] imageOf(ShyBoats x) {
        int[] bytes = new int[x.image()];
        for (int i = 0; i < bytes.length; i++) {
            bytes[i] = x.octet(i);
        }
        return bytes;
    }

    static int[] sealed(int... bytes) {
        int[] all = java.util.Arrays.copyOf(bytes, bytes.length + 1);
        int seal = 241;
        for (int octet : bytes) {
            seal = (3 * seal + octet) % 251;
        }
        all[bytes.length] = seal;
        return all;
    }
}
