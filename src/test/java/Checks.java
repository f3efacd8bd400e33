import java.util.Arrays;
import java.util.function.BooleanSupplier;
import java.util.function.LongSupplier;

/** What all tests share: texts onto a tape, answers against what is due. */
final class Checks {
    static final int NONE = ShyBoats.NONE;
    private int wrong;
    private int done;
    private String sentence = "";

    /**
     * The answers that follow hold this sentence of this promise or term: it is named where one of
     * them is not as due. SentencesTest reads these calls, too.
     */
    void holds(String where, String words) {
        sentence = where + ", '" + words + "': ";
    }

    void due(String what, long got, long want) {
        done++;
        if (got != want) {
            wrong++;
            System.out.println(sentence + what + " answered " + got + ", due is " + want);
        }
    }

    /** A call that is to be refused: NONE, one more of its kind alone, and all else as it was. */
    void refused(String what, ShyBoats x, int kind, LongSupplier call) {
        String before = stateOf(x);
        int[] counts = refusalsOf(x);
        due(what, call.getAsLong(), NONE);
        counts[kind]++;
        due(what + ": counted, kind " + kind + " alone", Arrays.equals(refusalsOf(x), counts), true);
        due(what + ": all stays", stateOf(x).equals(before), true);
    }

    /** The same of a call that answers false. */
    void refusedFlag(String what, ShyBoats x, int kind, BooleanSupplier call) {
        refused(what, x, kind, () -> call.getAsBoolean() ? 1 : NONE);
    }

    /** The tape has gone: it has no first byte. */
    void gone(String what, ShyBoats x) {
        due(what + ": the tape goes", x.end(1), false);
    }

    void goodLake(String text, int statements) {
        ShyBoats x = new ShyBoats();
        due("lake of " + text, lake(x, text), statements);
        due("fault of " + text, x.fault(0), 0);
        due("place of " + text, x.fault(1), NONE);
        gone(text, x);
    }

    /** A FAULT at the first place of what stands behind |, which is no part of the text. */
    void faultyLake(int fault, String marked) {
        int place = marked.indexOf('|');
        String text = marked.substring(0, place) + marked.substring(place + 1);
        ShyBoats x = new ShyBoats();
        due("lake of " + marked, lake(x, text), NONE);
        due("fault of " + marked, x.fault(0), fault);
        due("place in " + marked, x.fault(1), place);
        due("refused: " + marked, x.status(1), 1);
        due("no lake: " + marked, x.has(0), 0);
        gone(marked, x);
    }

    /** The same of a QUESTION; a good one has no FAULT behind it. */
    void faultyQuestion(ShyBoats x, int fault, String marked) {
        int place = marked.indexOf('|');
        String text = marked.substring(0, place) + marked.substring(place + 1);
        int[] counts = refusalsOf(x);
        due(marked, ask(x, 0, text), ShyBoats.NOTHING);
        due("fault of " + marked, x.fault(0), fault);
        due("place in " + marked, x.fault(1), place);
        due("none refused: " + marked, Arrays.equals(refusalsOf(x), counts), true);
        gone(marked, x);
        due("good then: " + marked, ask(x, 0, "often all"), (long) x.has(0) * x.has(1));
        due("no fault then: " + marked, x.fault(0), 0);
    }

    static int[] refusalsOf(ShyBoats x) {
        int[] counts = new int[6];
        for (int what = 0; what < counts.length; what++) {
            counts[what] = x.status(what);
        }
        return counts;
    }

    /** All that calls can change, but for the tape, the seed, the FAULT, the image and what was refused. */
    static String stateOf(ShyBoats x) {
        StringBuilder all = new StringBuilder();
        for (int what = 0; what < 12; what++) {
            all.append(x.has(what)).append(' ');
        }
        for (int boat = 0; boat < x.has(2); boat++) {
            for (int what = 0; what < 5; what++) {
                all.append(x.boat(boat, what)).append(' ');
            }
        }
        for (int k = 0; k < x.has(9); k++) {
            for (int what = 0; what < 4; what++) {
                all.append(x.kept(k, what)).append(' ');
            }
        }
        all.append(x.trusts(0)).append(' ').append(x.trusts(1)).append(' ').append(x.trusts(2)).append(' ');
        return all.append(x.next(0)).append(' ').append(x.next(1)).toString();
    }

    void due(String what, boolean got, boolean want) {
        due(what, got ? 1 : 0, want ? 1 : 0);
    }

    void finish() {
        System.out.println(done + " answers, " + wrong + " not as due");
        if (wrong != 0 || done == 0) {
            System.exit(1);
        }
    }

    /** Puts bytes behind those on an empty tape. */
    static void tape(ShyBoats x, int... bytes) {
        for (int from = 0; from < bytes.length; from += 20) {
            int[] five = new int[5];
            for (int i = 0; i < 20; i++) {
                int octet = from + i < bytes.length ? bytes[from + i] & 255 : 0;
                five[i / 4] |= octet << 24 - 8 * (i % 4);
            }
            x.feed(five[0], five[1], five[2], five[3], five[4]);
        }
        x.end(bytes.length);
    }

    static void text(ShyBoats x, String text) {
        tape(x, text.chars().toArray());
    }

    static int lake(ShyBoats x, String text) {
        text(x, text);
        return x.lake();
    }

    static ShyBoats onLake(String text) {
        ShyBoats x = new ShyBoats();
        if (lake(x, text) == NONE) {
            throw new IllegalStateException("fault " + x.fault(0) + " at " + x.fault(1) + " of " + text);
        }
        return x;
    }

    static long ask(ShyBoats x, int boat, String text) {
        text(x, text);
        return x.ask(boat);
    }

    static int file(ShyBoats x, int cell, int... boats) {
        tape(x, boats);
        return x.file(cell);
    }

    static int trials(ShyBoats x, int boat, int... rows) {
        tape(x, rows);
        return x.trials(boat);
    }

    static boolean on(ShyBoats x, int... bytes) {
        tape(x, bytes);
        return x.on();
    }

    static int[] imageOf(ShyBoats x) {
        int[] bytes = new int[x.image()];
        for (int i = 0; i < bytes.length; i++) {
            bytes[i] = x.octet(i);
        }
        return bytes;
    }

    static int[] sealed(int... bytes) {
        int[] all = Arrays.copyOf(bytes, bytes.length + 1);
        int seal = 241;
        for (int octet : bytes) {
            seal = (3 * seal + octet) % 251;
        }
        all[bytes.length] = seal;
        return all;
    }
}
