import java.nio.charset.StandardCharsets;

/** Texts on the tape, and answers that are counted as due or not. */
final class Calls {
    private static int good = 0;
    private static int wrong = 0;

    private Calls() {
    }

    static void due(String call, long got, long want) {
        if (got == want) {
            good++;
        } else {
            wrong++;
            System.out.println(call + " answered " + got + ", due is " + want);
        }
    }

    static void due(String call, boolean got, boolean want) {
        due(call, got ? 1 : 0, want ? 1 : 0);
    }

    static int wrong() {
        return wrong;
    }

    /** The closing line; ends the program with 1 if an answer was wrong. */
    static void close() {
        System.out.println(good + " passed, " + wrong + " failed");
        if (wrong != 0) {
            System.exit(1);
        }
    }

    static byte[] bytes(String text) {
        return text.getBytes(StandardCharsets.ISO_8859_1);
    }

    /** The five words of the twenty bytes from a place on; blanks behind the text's end. */
    static int[] words(byte[] text, int from) {
        int[] words = new int[5];
        for (int i = 0; i < 20; i++) {
            int sign = from + i < text.length ? text[from + i] & 255 : 32;
            words[i / 4] = words[i / 4] << 8 | sign;
        }
        return words;
    }

    /** Puts a text on the tape, with nothing behind it. */
    static void tell(ArrowOrders x, String text) {
        byte[] all = bytes(text);
        for (int from = 0; from < all.length; from += 20) {
            int[] w = words(all, from);
            x.feed(w[0], w[1], w[2], w[3], w[4]);
        }
        x.back((20 - all.length % 20) % 20);
    }

    static ArrowOrders read(String text) {
        ArrowOrders x = new ArrowOrders();
        tell(x, text);
        due("read() of " + text, x.read(), 0);
        return x;
    }

    static void fault(String text, int number, int place) {
        ArrowOrders x = new ArrowOrders();
        tell(x, text);
        due("read() of " + text, x.read(), number);
        due("place() of " + text, x.place(), place);
    }
}
