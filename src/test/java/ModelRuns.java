import java.util.Random;

/** Runs of calls drawn from fixed seeds: ArrowOrders must answer each as Model does. */
public final class ModelRuns {
    private static final int RUNS = 700;
    private static final String[] NAMES = {"a", "b", "c", "dd", "east", "f", "gallery", "longname", "ninth"};
    private static final String[] ODD_TOKENS = {
        "posts", "way", "heap", "cross", ";", "a", "b", "zz", "toolongname", "12345", "0", "1", "7", "8", "0001", "A", "-", "\u00e9", ".", "\u0000"
    };
    private static final int[] WILD = {-1, 8, 9, 63, 64, 255, 256, -8, 1 << 20, Integer.MAX_VALUE, Integer.MIN_VALUE};

    private final Random random;
    private final int run;
    private final ArrowOrders x = new ArrowOrders();
    private final Model m = new Model();
    private int calls = 0;

    private ModelRuns(int run) {
        this.run = run;
        this.random = new Random(run);
    }

    public static void main(String[] args) {
        for (int run = 0; run < RUNS && Calls.wrong() < 20; run++) {
            new ModelRuns(run).go();
        }
        Calls.close();
    }

    private void go() {
        boolean textsOnly = run % 4 == 3;
        while (calls < 512) {
            int pick = random.nextInt(100);
            if (calls < 3 || textsOnly || pick < 3) {
                text();
            } else if (pick < 20) {
                hand();
            } else {
                ask(random.nextInt(17));
            }
        }
    }

    private void due(String call, long got, long want) {
        calls++;
        Calls.due("run " + run + ", call " + calls + ": " + call, got, want);
    }

    private void due(String call, boolean got, boolean want) {
        due(call, got ? 1 : 0, want ? 1 : 0);
    }

    // ---- texts ----

    private String blank() {
        String[] blanks = {" ", " ", " ", "\n", "\t", "\r", "  "};
        return blanks[random.nextInt(blanks.length)];
    }

    private String posts(int n) {
        StringBuilder text = new StringBuilder("posts");
        for (int i = 0; i < n; i++) {
            text.append(blank()).append(NAMES[i]);
        }
        return text + ";";
    }

    private String telling(int n) {
        StringBuilder text = new StringBuilder();
        int kind = random.nextInt(5);
        if (kind == 0 && n > 0) {
            text.append("cross");
            int[] row = shuffled(n);
            for (int v : row) {
                text.append(blank()).append(random.nextInt(9) == 0 ? "00" : "").append(v);
            }
        } else if (n > 0) {
            text.append(kind == 1 ? "heap" : "way");
            int length = 2 + random.nextInt(kind == 1 ? 3 : 4);
            for (int i = 0; i < length; i++) {
                text.append(blank()).append(NAMES[random.nextInt(n)]);
            }
        } else {
            return "";
        }
        return text + ";";
    }

    private int[] shuffled(int n) {
        int[] row = new int[n];
        for (int i = 0; i < n; i++) {
            int j = random.nextInt(i + 1);
            row[i] = row[j];
            row[j] = i;
        }
        return row;
    }

    private String spoilt(String text) {
        String[] tokens = text.split("(?=;)|[ \n\t\r]+");
        StringBuilder out = new StringBuilder();
        int at = random.nextInt(tokens.length + 1);
        for (int i = 0; i <= tokens.length; i++) {
            if (i == at) {
                int how = random.nextInt(4);
                if (how == 0) {
                    continue;
                }
                out.append(ODD_TOKENS[random.nextInt(ODD_TOKENS.length)]).append(random.nextInt(3) == 0 ? "" : blank());
                if (how == 1) {
                    continue;
                }
                if (how == 2) {
                    break;
                }
            }
            if (i < tokens.length) {
                out.append(tokens[i]).append(blank());
            }
        }
        return out.toString();
    }

    private void text() {
        int n = random.nextInt(10);
        n = run % 3 == 0 ? Math.min(n, 8) : Math.min(n, random.nextInt(10) == 0 ? 9 : 7);
        StringBuilder text = new StringBuilder(posts(n));
        int most = random.nextInt(20) == 0 ? 60 : random.nextInt(8);
        for (int i = 0; i < most; i++) {
            text.append(random.nextBoolean() ? blank() : "").append(telling(n));
        }
        String whole = text.toString();
        for (int i = random.nextInt(4) - 1; i > 0; i--) {
            whole = spoilt(whole);
        }
        if (random.nextInt(25) == 0) {
            whole = garbage();
        }
        feedAll(whole);
        due("read() of " + whole, x.read(), m.read());
        due("place()", x.place(), m.place());
    }

    /** Signs of any sort, or tokens up to the tape's end. */
    private String garbage() {
        StringBuilder text = new StringBuilder();
        int kind = random.nextInt(3);
        int length = kind == 0 ? random.nextInt(60) : 1500 + random.nextInt(600);
        text.append(kind == 0 ? "" : "posts a b c;");
        while (text.length() < length) {
            if (kind == 0) {
                text.append((char) random.nextInt(256));
            } else {
                text.append(kind == 1 ? "way longname a longname ;" : "heap a  b \n \n  c   a b  c    a b;");
            }
        }
        return kind == 1 ? text.toString().replace("longname", random.nextBoolean() ? "b" : "c        ") : text.toString();
    }

    private void feedAll(String whole) {
        byte[] all = Calls.bytes(whole);
        for (int from = 0; from < all.length; from += 20) {
            int[] w = Calls.words(all, from);
            due("feed", x.feed(w[0], w[1], w[2], w[3], w[4]), m.feed(w));
        }
        int n = (20 - all.length % 20) % 20;
        if (random.nextInt(6) != 0) {
            due("back(" + n + ")", x.back(n), m.back(n));
        }
        if (random.nextInt(30) == 0) {
            n = random.nextInt(50) - 5;
            due("back(" + n + ")", x.back(n), m.back(n));
        }
    }

    // ---- by hand ----

    private int wild() {
        return WILD[random.nextInt(WILD.length)];
    }

    private int post() {
        return random.nextInt(25) == 0 ? wild() : random.nextInt(m.count(0) + (random.nextInt(9) == 0 ? 1 : 0) + (m.count(0) == 0 ? 1 : 0));
    }

    private int what(int most) {
        return random.nextInt(25) == 0 ? wild() : random.nextInt(most + 1);
    }

    private void hand() {
        int a = post();
        int b = post();
        int slot = random.nextInt(12) == 0 ? wild() : random.nextInt(3);
        switch (random.nextInt(14)) {
            case 0: due("other()", x.other(), m.other()); break;
            case 1: due("exchange(" + a + ", " + b + ")", x.exchange(a, b), m.exchange(a, b)); break;
            case 2: due("bare(" + a + ")", x.bare(a), m.bare(a)); break;
            case 3: due("begin()", x.begin(), m.begin()); break;
            case 4:
            case 5: due("undo()", x.undo(), m.undo()); break;
            case 6: due("hold(" + slot + ")", x.hold(slot), m.hold(slot)); break;
            case 7: due("restore(" + slot + ")", x.restore(slot), m.restore(slot)); break;
            default: due("line(" + a + ", " + b + ")", x.line(a, b), m.line(a, b)); break;
        }
    }

    // ---- questions ----

    private void ask(int which) {
        int a = post();
        int b = post();
        int c = random.nextBoolean() ? a : post();
        int d = random.nextBoolean() ? b : post();
        int w = what(10);
        switch (which) {
            case 0:
                int l = random.nextInt(20) == 0 ? wild() : random.nextInt(m.count(1) + 1);
                w = what(4);
                due("of(" + l + ", " + w + ")", x.of(l, w), m.of(l, w));
                break;
            case 1: due("far(" + a + ", " + b + ")", x.far(a, b), m.far(a, b)); break;
            case 2: due("near(" + a + ")", x.near(a), m.near(a)); break;
            case 3: due("forces(" + a + ", " + b + ", " + c + ", " + d + ")", x.forces(a, b, c, d), m.forces(a, b, c, d)); break;
            case 4:
                w = what(4);
                due("klass(" + a + ", " + b + ", " + w + ")", x.klass(a, b, w), m.klass(a, b, w));
                break;
            case 5: walk(a, b); break;
            case 6: due("network(" + w + ")", x.network(w), m.network(w)); break;
            case 7: due("under(" + a + ", " + b + ")", x.under(a, b), m.under(a, b)); break;
            case 8:
            case 9:
                w = what(7);
                due("post(" + a + ", " + w + ")", x.post(a, w), m.post(a, w));
                break;
            case 10: due("order(" + w + ")", x.order(w), m.order(w)); break;
            case 11: due("chain(" + a + ")", x.chain(a), m.chain(a)); break;
            case 12: straight(a); break;
            case 13: due("sign(" + a + ", " + b + ")", x.sign(a, b), m.sign(a, b)); break;
            case 14: due("colours(" + w + ")", x.colours(w), m.colours(w)); break;
            case 15:
                int set = random.nextInt(20) == 0 ? wild() : random.nextInt(1 << m.count(0));
                w = what(4);
                due("set(" + set + ", " + w + ")", x.set(set, w), m.set(set, w));
                break;
            default:
                int slot = what(3);
                due("like(" + slot + ")", x.like(slot), m.like(slot));
                w = what(11);
                due("count(" + w + ")", x.count(w), m.count(w));
                due("place()", x.place(), m.place());
                break;
        }
    }

    private void walk(int a, int b) {
        int length = m.klass(a, b, 3);
        for (int i = -1; i <= length; i++) {
            due("walk(" + a + ", " + b + ", " + i + ")", x.walk(a, b, i), m.walk(a, b, i));
        }
    }

    private void straight(int k) {
        int most = Math.max(1, m.order(0));
        int i = random.nextInt(10) == 0 ? wild() : random.nextInt(most) + random.nextInt(2);
        due("straight(" + i + ", " + k + ")", x.straight(i, k), m.straight(i, k));
    }
}
