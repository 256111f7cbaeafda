import java.nio.charset.StandardCharsets;

/** Texts on the tape, and answers that are counted as due or not. */
final class Calls {
    private static int good = 0;
    private static int wrong = 0;
    private static int sentences = 0;
    private static String sentence = "";

    private Calls() {
    }

    /** The sentence of the document that the answers from here on are due by. */
    static void about(String told) {
        sentence = told + " | ";
        sentences++;
    }

    static void due(String call, long got, long want) {
        if (got == want) {
            good++;
        } else {
            wrong++;
            System.out.println(sentence + call + " answered " + got + ", due is " + want);
        }
    }

    static void due(String call, boolean got, boolean want) {
        due(call, got ? 1 : 0, want ? 1 : 0);
    }

    static int wrong() {
        return wrong;
    }

    /** The closing line; ends the program with 1 if an answer was wrong. */
    static void close() {
        String of = sentences > 0 ? " of " + sentences + " sentences" : "";
        System.out.println(good + " passed, " + wrong + " failed" + of);
        if (wrong != 0) {
            System.exit(1);
        }
    }

    static byte[] bytes(String text) {
        return text.getBytes(StandardCharsets.ISO_8859_1);
    }

    /** The five words of the twenty bytes from a place on; blanks behind the text's end. */
    static int[] words(byte[] text, int from) {
        int[] words = new int[5];
        for (int i = 0; i < 20; i++) {
            int sign = from + i < text.length ? text[from + i] & 255 : 32;
            words[i / 4] = words[i / 4] << 8 | sign;
        }
        return words;
    }

    /** Puts a text on the tape, with nothing behind it. */
    static void tell(ArrowOrders x, String text) {
        byte[] all = bytes(text);
        for (int from = 0; from < all.length; from += 20) {
            int[] w = words(all, from);
            x.feed(w[0], w[1], w[2], w[3], w[4]);
        }
        x.back((20 - all.length % 20) % 20);
    }

    static ArrowOrders read(String text) {
        ArrowOrders x = new ArrowOrders();
        tell(x, text);
        due("read() of " + text, x.read(), 0);
        return x;
    }

    /** What each post has lines to, as bits, for all posts there are. */
    static void nears(ArrowOrders x, int... want) {
        due("count(0)", x.count(0), want.length);
        for (int p = 0; p < want.length; p++) {
            due("near(" + p + ")", x.near(p), want[p]);
        }
        due("near(" + want.length + ")", x.near(want.length), ArrowOrders.NONE);
    }

    /** All that is asked of the order and the arrows of some posts: as another object answers it. Some 80 calls. */
    static void same(String after, ArrowOrders x, ArrowOrders like) {
        for (int what = 0; what <= 9; what++) {
            due(after + ": network(" + what + ")", x.network(what), like.network(what));
            due(after + ": order(" + what + ")", x.order(what), like.order(what));
        }
        for (int what = 0; what <= 7; what++) {
            due(after + ": count(" + what + ")", x.count(what), like.count(what));
        }
        for (int p = 0; p < x.count(0); p += 3) {
            for (int what = 0; what <= 6; what++) {
                due(after + ": post(" + p + ", " + what + ")", x.post(p, what), like.post(p, what));
            }
            due(after + ": chain(" + p + ")", x.chain(p), like.chain(p));
            due(after + ": sign(0, " + p + ")", x.sign(0, p), like.sign(0, p));
            due(after + ": far(0, " + p + ")", x.far(0, p), like.far(0, p));
            due(after + ": under(0, " + p + ")", x.under(0, p), like.under(0, p));
            due(after + ": klass(0, " + p + ", 2)", x.klass(0, p, 2), like.klass(0, p, 2));
            due(after + ": walk(0, " + p + ", 1)", x.walk(0, p, 1), like.walk(0, p, 1));
            due(after + ": straight(1, " + p + ")", x.straight(1, p), like.straight(1, p));
            due(after + ": of(" + p + ", 2)", x.of(p, 2), like.of(p, 2));
            due(after + ": of(" + p + ", 3)", x.of(p, 3), like.of(p, 3));
        }
        due(after + ": colours(4)", x.colours(4), like.colours(4));
    }

    static void fault(String text, int number, int place) {
        ArrowOrders x = new ArrowOrders();
        tell(x, text);
        due("read() of " + text, x.read(), number);
        due("place() of " + text, x.place(), place);
    }
}
