import java.util.Random;

/** Every network of few posts, and some of many, asked all that can be asked: ArrowOrders must answer as Model does. */
public final class ModelAll {
    private static final String NAMES = "abcdefgh";
    private static final int MOST_POSTS_ALL = 4;
    private static final int DRAWN = 300;

    private final ArrowOrders x = new ArrowOrders();
    private final Model m = new Model();
    private final String about;
    private final int n;

    private ModelAll(int n, long lines, boolean turned) {
        this.n = n;
        this.about = n + " posts, lines " + lines + (turned ? ", turned: " : ": ");
        read(lines);
        if (turned) {
            due("begin()", x.begin() ? 1 : 0, m.begin() ? 1 : 0);
        }
        due("hold(1)", x.hold(1) ? 1 : 0, m.hold(1) ? 1 : 0);
    }

    public static void main(String[] args) {
        for (int n = 0; n <= MOST_POSTS_ALL; n++) {
            for (long lines = 0; lines < 1L << n * (n - 1) / 2; lines++) {
                new ModelAll(n, lines, false).askAll();
                new ModelAll(n, lines, true).askAll();
            }
        }
        Random random = new Random(5);
        for (int i = 0; i < DRAWN && Calls.wrong() < 20; i++) {
            int n = 5 + random.nextInt(i % 10 == 0 ? 4 : 2);
            long lines = random.nextLong();
            lines &= i % 3 == 0 ? random.nextLong() : i % 3 == 1 ? -1L : ~(random.nextLong() & random.nextLong());
            lines |= i % 5 == 0 ? random.nextLong() : 0;
            new ModelAll(n, lines & (1L << n * (n - 1) / 2) - 1, random.nextBoolean()).askAll();
        }
        Calls.close();
    }

    private void read(long lines) {
        StringBuilder text = new StringBuilder("posts");
        for (int p = 0; p < n; p++) {
            text.append(' ').append(NAMES.charAt(p));
        }
        text.append(';');
        int at = 0;
        for (int a = 0; a < n; a++) {
            for (int b = a + 1; b < n; b++, at++) {
                if ((lines >> at & 1) == 1) {
                    text.append("way ").append(NAMES.charAt(a)).append(' ').append(NAMES.charAt(b)).append(';');
                }
            }
        }
        byte[] all = Calls.bytes(text.toString());
        for (int from = 0; from < all.length; from += 20) {
            int[] w = Calls.words(all, from);
            due("feed", x.feed(w[0], w[1], w[2], w[3], w[4]), m.feed(w));
        }
        due("read()", x.read(), m.read());
    }

    private void due(String call, long got, long want) {
        Calls.due(about + call, got, want);
    }

    private void askAll() {
        for (int w = -1; w <= 11; w++) {
            due("network " + w, x.network(w), m.network(w));
            due("order " + w, x.order(w), m.order(w));
            due("count " + w, x.count(w), m.count(w));
            due("colours " + w, x.colours(w), m.colours(w));
        }
        for (int slot = -1; slot <= 3; slot++) {
            due("like " + slot, x.like(slot), m.like(slot));
        }
        for (int line = -1; line <= m.count(1); line++) {
            for (int w = -1; w <= 4; w++) {
                due("of " + line + " " + w, x.of(line, w), m.of(line, w));
            }
        }
        for (int set = -1; set <= 1 << n; set++) {
            for (int w = -1; w <= 4; w++) {
                due("set " + set + " " + w, x.set(set, w), m.set(set, w));
            }
        }
        askPosts();
        askStraight();
    }

    private void askPosts() {
        for (int a = -1; a <= n; a++) {
            due("near " + a, x.near(a), m.near(a));
            due("chain " + a, x.chain(a), m.chain(a));
            for (int w = -1; w <= 7; w++) {
                due("post " + a + " " + w, x.post(a, w), m.post(a, w));
            }
            for (int b = -1; b <= n; b++) {
                askPair(a, b);
            }
        }
    }

    private void askPair(int a, int b) {
        due("far " + a + " " + b, x.far(a, b), m.far(a, b));
        due("under " + a + " " + b, x.under(a, b), m.under(a, b));
        due("sign " + a + " " + b, x.sign(a, b), m.sign(a, b));
        for (int w = -1; w <= 4; w++) {
            due("klass " + a + " " + b + " " + w, x.klass(a, b, w), m.klass(a, b, w));
        }
        int length = m.klass(a, b, 3);
        for (int i = -1; i <= length; i++) {
            due("walk " + a + " " + b + " " + i, x.walk(a, b, i), m.walk(a, b, i));
        }
        for (int c = -1; c <= n; c++) {
            due("forces " + a + " " + b + " " + a + " " + c, x.forces(a, b, a, c), m.forces(a, b, a, c));
            due("forces " + a + " " + b + " " + c + " " + b, x.forces(a, b, c, b), m.forces(a, b, c, b));
            due("forces " + a + " " + b + " " + b + " " + c, x.forces(a, b, b, c), m.forces(a, b, b, c));
            due("forces " + a + " " + b + " " + c + " " + a, x.forces(a, b, c, a), m.forces(a, b, c, a));
            due("forces " + a + " " + b + " " + c + " " + (c + 1), x.forces(a, b, c, c + 1), m.forces(a, b, c, c + 1));
        }
    }

    private void askStraight() {
        int most = Math.min(m.order(0), 12);
        for (int i = -1; i <= most; i++) {
            for (int k = -1; k <= n; k++) {
                due("straight " + i + " " + k, x.straight(i, k), m.straight(i, k));
            }
        }
        int last = Math.max(0, m.order(0) - 1);
        for (int k = 0; k < n; k++) {
            due("straight " + last + " " + k, x.straight(last, k), m.straight(last, k));
        }
    }
}
