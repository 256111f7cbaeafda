import java.util.ArrayDeque;
import java.util.ArrayList;
import java.util.Arrays;
import java.util.Deque;
import java.util.HashSet;
import java.util.List;
import java.util.Set;
import java.util.TreeSet;

/**
 * The document again, in the slowest and plainest words: definitions by trying all
 * there is, so that it shares no way of working with ArrowOrders.
 */
final class Model {
    static final int NONE = -1;

    record State(int n, boolean[][] m, boolean turned) {
        State copy() {
            boolean[][] c = new boolean[n][];
            for (int i = 0; i < n; i++) {
                c[i] = m[i].clone();
            }
            return new State(n, c, turned);
        }
    }

    private final List<Integer> tape = new ArrayList<>();
    private State s = new State(0, new boolean[0][0], false);
    private final Deque<State> past = new ArrayDeque<>();
    private final State[] slots = new State[3];
    private int place = NONE;

    // ---- tape ----

    int feed(int... words) {
        if (tape.size() + 20 > 2000) {
            return NONE;
        }
        for (int w : words) {
            for (int k = 3; k >= 0; k--) {
                tape.add((w >>> (8 * k)) & 0xff);
            }
        }
        return tape.size();
    }

    int back(int n) {
        if (n < 0 || n > tape.size()) {
            return NONE;
        }
        for (int i = 0; i < n; i++) {
            tape.remove(tape.size() - 1);
        }
        return tape.size();
    }

    record Token(String word, int at) {
    }

    private static final Set<String> WORDS = Set.of("posts", "way", "heap", "cross");

    private static String kind(String w) {
        if (WORDS.contains(w) || w.equals(";")) {
            return w;
        }
        if (w.matches("[a-z]{1,8}")) {
            return "NAME";
        }
        if (w.matches("[0-9]{1,4}")) {
            return "INT";
        }
        return "BAD";
    }

    int read() {
        StringBuilder b = new StringBuilder();
        for (int t : tape) {
            b.append((char) t);
        }
        tape.clear();
        String text = b.toString();
        List<Token> tokens = new ArrayList<>();
        java.util.regex.Matcher r = java.util.regex.Pattern.compile("[a-z]+|[0-9]+|[^a-z0-9 \\t\\n\\r]").matcher(text);
        while (r.find()) {
            tokens.add(new Token(r.group(), r.start()));
        }
        int form = form(tokens, text.length());
        if (form != 0) {
            return form;
        }
        int sense = sense(tokens);
        if (sense == 0) {
            place = NONE;
            past.clear();
            Arrays.fill(slots, null);
        }
        return sense;
    }

    private int fault(int number, int at) {
        place = at;
        return number;
    }

    /** Each prefix of tokens that a text can begin with, as a pattern over the kinds' first letters. */
    private static final java.util.regex.Pattern WHOLE = java.util.regex.Pattern.compile("pN*;(?:[wh]NNN*;|cII*;)*");

    private int form(List<Token> tokens, int length) {
        StringBuilder kinds = new StringBuilder();
        int posts = 0;
        for (int i = 0; i < tokens.size(); i++) {
            String k = kind(tokens.get(i).word);
            kinds.append(k.equals("posts") ? 'p' : k.charAt(0));
            java.util.regex.Matcher m = WHOLE.matcher(kinds);
            boolean goesOn = m.matches() || m.hitEnd();
            if (!goesOn) {
                return fault(1, tokens.get(i).at);
            }
            if (kinds.indexOf(";") < 0 && k.equals("NAME")) {
                posts++;
            }
            if (i >= 400 || posts > 8) {
                return fault(2, tokens.get(i).at);
            }
        }
        return WHOLE.matcher(kinds).matches() ? 0 : fault(1, length);
    }

    private int sense(List<Token> tokens) {
        List<String> names = new ArrayList<>();
        int i = 1;
        for (; !tokens.get(i).word.equals(";"); i++) {
            if (names.contains(tokens.get(i).word)) {
                return fault(3, tokens.get(i).at);
            }
            names.add(tokens.get(i).word);
        }
        int n = names.size();
        boolean[][] m = new boolean[n][n];
        i++;
        while (i < tokens.size()) {
            String word = tokens.get(i).word;
            i++;
            List<Integer> row = new ArrayList<>();
            for (; !tokens.get(i).word.equals(";"); i++) {
                String w = tokens.get(i).word;
                if (word.equals("cross")) {
                    int v = Integer.parseInt(w);
                    if (row.contains(v)) {
                        return fault(3, tokens.get(i).at);
                    }
                    if (v >= n) {
                        return fault(5, tokens.get(i).at);
                    }
                    row.add(v);
                } else {
                    if (!names.contains(w)) {
                        return fault(4, tokens.get(i).at);
                    }
                    row.add(names.indexOf(w));
                }
            }
            if (word.equals("cross") && row.size() < n) {
                return fault(6, tokens.get(i).at);
            }
            i++;
            for (int x = 0; x < row.size(); x++) {
                for (int y = x + 1; y < row.size(); y++) {
                    if (word.equals("cross")) {
                        if (row.get(x) > row.get(y)) {
                            m[x][y] = m[y][x] = true;
                        }
                    } else if (word.equals("heap") || y == x + 1) {
                        if (!row.get(x).equals(row.get(y))) {
                            m[row.get(x)][row.get(y)] = m[row.get(y)][row.get(x)] = true;
                        }
                    }
                }
            }
        }
        s = new State(n, m, false);
        return 0;
    }

    int place() {
        return place;
    }

    // ---- by hand ----

    private void keep() {
        past.addLast(s.copy());
        if (past.size() > 40) {
            past.removeFirst();
        }
    }

    private boolean post(int p) {
        return p >= 0 && p < s.n;
    }

    private boolean line0(int a, int b) {
        return post(a) && post(b) && s.m[a][b];
    }

    boolean line(int a, int b) {
        if (!post(a) || !post(b) || a == b) {
            return false;
        }
        keep();
        s.m[a][b] = s.m[b][a] = !s.m[a][b];
        return true;
    }

    private static State otherOf(State s) {
        State o = s.copy();
        for (int a = 0; a < s.n; a++) {
            for (int b = 0; b < s.n; b++) {
                o.m[a][b] = a != b && !s.m[a][b];
            }
        }
        return new State(o.n, o.m, false);
    }

    int other() {
        keep();
        s = new State(s.n, otherOf(s).m, s.turned);
        return lines(s).size();
    }

    boolean exchange(int a, int b) {
        if (!post(a) || !post(b) || a == b) {
            return false;
        }
        keep();
        State o = s.copy();
        for (int p = 0; p < s.n; p++) {
            for (int q = 0; q < s.n; q++) {
                int x = p == a ? b : p == b ? a : p;
                int y = q == a ? b : q == b ? a : q;
                o.m[x][y] = s.m[p][q];
            }
        }
        s = o;
        return true;
    }

    int bare(int p) {
        if (!post(p)) {
            return NONE;
        }
        State o = s.copy();
        int gone = 0;
        for (int q = 0; q < s.n; q++) {
            if (o.m[p][q]) {
                gone++;
                o.m[p][q] = o.m[q][p] = false;
            }
        }
        if (gone > 0) {
            keep();
            s = o;
        }
        return gone;
    }

    boolean begin() {
        keep();
        s = new State(s.n, s.m, !s.turned);
        return s.turned;
    }

    boolean undo() {
        if (past.isEmpty()) {
            return false;
        }
        s = past.removeLast();
        return true;
    }

    boolean hold(int slot) {
        if (slot < 0 || slot > 2) {
            return false;
        }
        slots[slot] = s.copy();
        return true;
    }

    boolean restore(int slot) {
        if (slot < 0 || slot > 2 || slots[slot] == null) {
            return false;
        }
        s = slots[slot].copy();
        past.clear();
        return true;
    }

    // ---- lines, arrows, classes ----

    private static List<int[]> lines(State s) {
        List<int[]> all = new ArrayList<>();
        for (int a = 0; a < s.n; a++) {
            for (int b = a + 1; b < s.n; b++) {
                if (s.m[a][b]) {
                    all.add(new int[] {a, b});
                }
            }
        }
        return all;
    }

    private static boolean compels(State s, int p, int q) {
        int a = p / 8;
        int b = p % 8;
        int c = q / 8;
        int d = q % 8;
        boolean away = c == a && d != b && s.m[a][d] && !s.m[b][d];
        boolean toward = d == b && c != a && s.m[c][b] && !s.m[a][c];
        return away || toward;
    }

    private static TreeSet<Integer> klassOf(State s, int arrow) {
        TreeSet<Integer> k = new TreeSet<>();
        k.add(arrow);
        for (boolean more = true; more;) {
            TreeSet<Integer> add = new TreeSet<>();
            for (int p : k) {
                for (int[] l : lines(s)) {
                    for (int q : new int[] {8 * l[0] + l[1], 8 * l[1] + l[0]}) {
                        if (compels(s, p, q)) {
                            add.add(q);
                        }
                    }
                }
            }
            more = k.addAll(add);
        }
        return k;
    }

    private static int turn(int arrow) {
        return arrow % 8 * 8 + arrow / 8;
    }

    private static boolean odd(Set<Integer> k) {
        for (int p : k) {
            if (k.contains(turn(p))) {
                return true;
            }
        }
        return false;
    }

    private static Set<Set<Integer>> classes(State s) {
        Set<Set<Integer>> all = new HashSet<>();
        for (int[] l : lines(s)) {
            all.add(klassOf(s, 8 * l[0] + l[1]));
            all.add(klassOf(s, 8 * l[1] + l[0]));
        }
        return all;
    }

    private static boolean ordered(State s) {
        for (Set<Integer> k : classes(s)) {
            if (odd(k)) {
                return false;
            }
        }
        return true;
    }

    int of(int line, int what) {
        List<int[]> all = lines(s);
        if (line < 0 || line >= all.size() || what < 0 || what > 3) {
            return NONE;
        }
        int[] l = all.get(line);
        if (what < 2) {
            return l[what];
        }
        if (!ordered(s)) {
            return -2;
        }
        int[][] step = new int[8][8];
        boolean[][] up = arrows(s, step);
        return what == 2 ? step[l[0]][l[1]] : up[l[0]][l[1]] ? 1 : 0;
    }

    private static boolean[][] arrows(State s, int[][] step) {
        State left = s.copy();
        boolean[][] up = new boolean[s.n][s.n];
        int steps = 0;
        while (!lines(left).isEmpty()) {
            int[] l = lines(left).get(0);
            int first = steps == 0 && s.turned ? 8 * l[1] + l[0] : 8 * l[0] + l[1];
            TreeSet<Integer> k = klassOf(left, first);
            for (int p : k) {
                up[p / 8][p % 8] = true;
                if (step != null) {
                    step[p / 8][p % 8] = step[p % 8][p / 8] = steps;
                }
                left.m[p / 8][p % 8] = left.m[p % 8][p / 8] = false;
            }
            steps++;
        }
        return up;
    }

    int far(int a, int b) {
        if (!post(a) || !post(b)) {
            return NONE;
        }
        int[] d = new int[s.n];
        Arrays.fill(d, -2);
        d[a] = 0;
        for (int k = 0; k < s.n; k++) {
            for (int p = 0; p < s.n; p++) {
                for (int q = 0; q < s.n; q++) {
                    if (d[p] == k && s.m[p][q] && d[q] == -2) {
                        d[q] = k + 1;
                    }
                }
            }
        }
        return d[b];
    }

    private static int bits(boolean[] row) {
        int x = 0;
        for (int i = 0; i < row.length; i++) {
            x |= row[i] ? 1 << i : 0;
        }
        return x;
    }

    int near(int p) {
        return post(p) ? bits(s.m[p]) : NONE;
    }

    int forces(int a, int b, int c, int d) {
        return line0(a, b) && line0(c, d) ? compels(s, 8 * a + b, 8 * c + d) ? 1 : 0 : NONE;
    }

    /** Breadth first with arrows in their order: what is found first is found by the first of the shortest rows. */
    private List<Integer> forcedWalk(int a, int b) {
        int start = 8 * a + b;
        List<List<Integer>> rows = new ArrayList<>();
        rows.add(List.of(start));
        Set<Integer> seen = new HashSet<>(List.of(start));
        for (int i = 0; i < rows.size(); i++) {
            List<Integer> row = rows.get(i);
            int last = row.get(row.size() - 1);
            if (last == turn(start)) {
                return row;
            }
            for (int q = 0; q < 64; q++) {
                if (line0(q / 8, q % 8) && compels(s, last, q) && seen.add(q)) {
                    List<Integer> longer = new ArrayList<>(row);
                    longer.add(q);
                    rows.add(longer);
                }
            }
        }
        return List.of();
    }

    int klass(int a, int b, int what) {
        if (!line0(a, b) || what < 0 || what > 3) {
            return NONE;
        }
        TreeSet<Integer> k = klassOf(s, 8 * a + b);
        switch (what) {
            case 0: return k.size();
            case 1: return odd(k) ? 1 : 0;
            case 2:
                int set = 0;
                List<int[]> all = lines(s);
                for (int i = 0; i < all.size(); i++) {
                    int p = 8 * all.get(i)[0] + all.get(i)[1];
                    set |= k.contains(p) || k.contains(turn(p)) ? 1 << i : 0;
                }
                return set;
            default: return forcedWalk(a, b).size();
        }
    }

    int walk(int a, int b, int i) {
        if (!line0(a, b)) {
            return NONE;
        }
        List<Integer> w = forcedWalk(a, b);
        return i < 0 || i >= w.size() ? NONE : w.get(i);
    }

    // ---- the network ----

    /** All ways to give arrows, line by line, dropped as soon as three decided ones are amiss. */
    private static int ways(State s) {
        return ways(s, lines(s), 0, new boolean[8][8]);
    }

    private static int ways(State s, List<int[]> all, int i, boolean[][] up) {
        if (i == all.size()) {
            return 1;
        }
        int sum = 0;
        for (int k = 0; k < 2; k++) {
            int a = all.get(i)[k];
            int b = all.get(i)[1 - k];
            up[a][b] = true;
            boolean good = true;
            for (int c = 0; c < s.n && good; c++) {
                good = !(up[b][c] && (!s.m[a][c] || up[c][a])) && !(up[c][a] && (!s.m[c][b] || up[b][c]));
            }
            sum += good ? ways(s, all, i + 1, up) : 0;
            up[a][b] = false;
        }
        return sum;
    }

    int network(int what) {
        State o = otherOf(s);
        switch (what) {
            case 0: return ordered(s) ? 1 : 0;
            case 1: return classes(s).size();
            case 2: return (int) classes(s).stream().filter(Model::odd).count();
            case 3: return ways(s);
            case 4:
                if (!ordered(s)) {
                    return -2;
                }
                int[][] step = new int[8][8];
                arrows(s, step);
                int most = 0;
                for (int[] l : lines(s)) {
                    most = Math.max(most, step[l[0]][l[1]] + 1);
                }
                return most;
            case 5: return ordered(s) && ordered(o) ? 1 : 0;
            case 6: return ordered(o) ? 1 : 0;
            case 7:
                int parts = 0;
                for (int p = 0; p < s.n; p++) {
                    boolean least = true;
                    for (int q = 0; q < p; q++) {
                        least &= far(p, q) == -2;
                    }
                    parts += least ? 1 : 0;
                }
                return parts;
            default: return NONE;
        }
    }

    int under(int a, int b) {
        if (!post(a) || !post(b)) {
            return NONE;
        }
        return !ordered(s) ? -2 : arrows(s, null)[a][b] ? 1 : 0;
    }

    private static int level(boolean[][] up, int p) {
        int most = 0;
        for (int q = 0; q < up.length; q++) {
            most = up[q][p] ? Math.max(most, level(up, q) + 1) : most;
        }
        return most;
    }

    private static boolean cover(boolean[][] up, int a, int b) {
        boolean is = up[a][b];
        for (int c = 0; c < up.length; c++) {
            is &= !(up[a][c] && up[c][b]);
        }
        return is;
    }

    int post(int p, int what) {
        if (!post(p) || what < 0 || what > 6) {
            return NONE;
        }
        if (!ordered(s)) {
            return -2;
        }
        boolean[][] up = arrows(s, null);
        boolean[] out = new boolean[s.n];
        switch (what) {
            case 0: return level(up, p);
            case 1:
                for (int q = 0; q < s.n; q++) {
                    out[q] = up[q][p];
                }
                return bits(out);
            case 2: return bits(up[p]);
            case 3:
                for (int q = 0; q < s.n; q++) {
                    out[q] = cover(up, p, q);
                }
                return bits(out);
            case 4:
                List<Integer> row = new ArrayList<>();
                while (row.size() < s.n) {
                    for (int q = 0; q < s.n; q++) {
                        boolean can = !row.contains(q);
                        for (int c = 0; c < s.n; c++) {
                            can &= !up[c][q] || row.contains(c);
                        }
                        if (can) {
                            row.add(q);
                            break;
                        }
                    }
                }
                return row.indexOf(p);
            default:
                State o = otherOf(s);
                if (!ordered(o)) {
                    return -2;
                }
                boolean[][] far = arrows(o, null);
                List<Integer> all = new ArrayList<>();
                for (int q = 0; q < s.n; q++) {
                    all.add(q);
                }
                all.sort((x, y) -> x.equals(y) ? 0 : far[x][y] || (what == 5 ? up[x][y] : up[y][x]) ? -1 : 1);
                return all.indexOf(p);
        }
    }

    private static List<int[]> straights(boolean[][] up) {
        List<int[]> all = new ArrayList<>();
        straights(up, new int[up.length], 0, all);
        return all;
    }

    private static void straights(boolean[][] up, int[] row, int at, List<int[]> all) {
        if (at == row.length) {
            all.add(row.clone());
            return;
        }
        for (int p = 0; p < row.length; p++) {
            boolean can = true;
            for (int i = 0; i < at; i++) {
                can &= row[i] != p && !up[p][row[i]];
            }
            if (can) {
                row[at] = p;
                straights(up, row, at + 1, all);
            }
        }
    }

    private static boolean clique(State s, int set, boolean lines) {
        for (int a = 0; a < s.n; a++) {
            for (int b = 0; b < a; b++) {
                if ((set >> a & 1) == 1 && (set >> b & 1) == 1 && s.m[a][b] != lines) {
                    return false;
                }
            }
        }
        return true;
    }

    private int best(boolean lines, boolean tell) {
        int best = 0;
        for (int set = 0; set < 1 << s.n; set++) {
            if (clique(s, set, lines) && Integer.bitCount(set) > Integer.bitCount(best)) {
                best = set;
            }
        }
        return tell ? best : Integer.bitCount(best);
    }

    int order(int what) {
        if (what < 0 || what > 9) {
            return NONE;
        }
        if (!ordered(s)) {
            return -2;
        }
        boolean[][] up = arrows(s, null);
        switch (what) {
            case 0: return straights(up).size();
            case 1:
                int covers = 0;
                for (int a = 0; a < s.n; a++) {
                    for (int b = 0; b < s.n; b++) {
                        covers += cover(up, a, b) ? 1 : 0;
                    }
                }
                return covers;
            case 2: return best(true, false);
            case 3: return best(true, true);
            case 4: return best(false, false);
            case 5: return best(false, true);
            case 6: return chains().length == 0 ? 0 : Arrays.stream(chains()).max().getAsInt() + 1;
            case 7:
                int most = NONE;
                for (int p = 0; p < s.n; p++) {
                    most = Math.max(most, level(up, p));
                }
                return most;
            case 8:
                int down = 0;
                for (int set = 0; set < 1 << s.n; set++) {
                    boolean is = true;
                    for (int a = 0; a < s.n; a++) {
                        for (int b = 0; b < s.n; b++) {
                            is &= !up[a][b] || (set >> b & 1) == 0 || (set >> a & 1) == 1;
                        }
                    }
                    down += is ? 1 : 0;
                }
                return down;
            default:
                int fewest = 99;
                for (int[] row : straights(up)) {
                    int jumps = 0;
                    for (int i = 1; i < s.n; i++) {
                        jumps += s.m[row[i - 1]][row[i]] ? 0 : 1;
                    }
                    fewest = Math.min(fewest, jumps);
                }
                return fewest;
        }
    }

    /** All rows of chain numbers, the first first, for as few chains as do. */
    private int[] chains() {
        for (int k = 0;; k++) {
            int[] of = new int[s.n];
            if (chains(of, 0, k)) {
                return of;
            }
        }
    }

    private boolean chains(int[] of, int at, int k) {
        if (at == s.n) {
            return true;
        }
        for (of[at] = 0; of[at] < k; of[at]++) {
            boolean can = true;
            for (int p = 0; p < at; p++) {
                can &= of[p] != of[at] || s.m[p][at];
            }
            if (can && chains(of, at + 1, k)) {
                return true;
            }
        }
        return false;
    }

    int chain(int p) {
        return !post(p) ? NONE : !ordered(s) ? -2 : chains()[p];
    }

    int straight(int i, int k) {
        if (i < 0 || !post(k)) {
            return NONE;
        }
        if (!ordered(s)) {
            return -2;
        }
        List<int[]> all = straights(arrows(s, null));
        return i >= all.size() ? NONE : all.get(i)[k];
    }

    int sign(int a, int b) {
        if (!post(a) || !post(b) || !ordered(s)) {
            return -100000;
        }
        return sign(arrows(s, null), a, b);
    }

    private static int sign(boolean[][] up, int a, int b) {
        if (a == b) {
            return 1;
        }
        if (!up[a][b]) {
            return 0;
        }
        int sum = 0;
        for (int c = 0; c < up.length; c++) {
            if (up[c][b] && (c == a || up[a][c])) {
                sum += sign(up, a, c);
            }
        }
        return -sum;
    }

    int colours(int k) {
        return k < 0 || k > 9 ? NONE : (int) colours(s, k);
    }

    /** By one line taken or one put, whichever comes to an end sooner. */
    private static long colours(State s, long k) {
        int lines = lines(s).size();
        int most = s.n * (s.n - 1) / 2;
        if (lines == 0 || lines == most) {
            long product = 1;
            for (int i = 0; i < s.n; i++) {
                product *= lines == 0 ? k : Math.max(0, k - i);
            }
            return product;
        }
        boolean take = lines <= most / 2;
        int[] l = lines(take ? s : otherOf(s)).get(0);
        State changed = s.copy();
        changed.m[l[0]][l[1]] = changed.m[l[1]][l[0]] = !take;
        long one = colours(changed, k);
        long two = colours(merged(s, l[0], l[1]), k);
        return take ? one - two : one + two;
    }

    private static State merged(State s, int a, int b) {
        boolean[][] m = new boolean[s.n - 1][s.n - 1];
        for (int p = 0; p < s.n; p++) {
            for (int q = 0; q < s.n; q++) {
                int x = p == b ? a : p > b ? p - 1 : p;
                int y = q == b ? a : q > b ? q - 1 : q;
                m[x][y] |= x != y && s.m[p][q];
            }
        }
        return new State(s.n - 1, m, false);
    }

    // ---- sets ----

    private boolean alike(int set) {
        for (int p = 0; p < s.n; p++) {
            Set<Boolean> seen = new HashSet<>();
            for (int q = 0; q < s.n; q++) {
                if ((set >> p & 1) == 0 && (set >> q & 1) == 1) {
                    seen.add(s.m[p][q]);
                }
            }
            if (seen.size() > 1) {
                return false;
            }
        }
        return set != 0;
    }

    /** Walks round from the least post, always on, and must come to all and back. */
    private boolean round(int set) {
        if (Integer.bitCount(set) < 4) {
            return false;
        }
        for (int p = 0; p < s.n; p++) {
            if ((set >> p & 1) == 1 && Integer.bitCount(near(p) & set) != 2) {
                return false;
            }
        }
        int start = Integer.numberOfTrailingZeros(set);
        int before = start;
        int at = Integer.numberOfTrailingZeros(near(start) & set);
        int length = 1;
        while (at != start) {
            int next = Integer.numberOfTrailingZeros(near(at) & set & ~(1 << before));
            before = at;
            at = next;
            length++;
        }
        return length == Integer.bitCount(set);
    }

    int set(int set, int what) {
        if (set < 0 || set >= 1 << s.n) {
            return NONE;
        }
        switch (what) {
            case 0: return clique(s, set, true) ? 1 : 0;
            case 1: return clique(s, set, false) ? 1 : 0;
            case 2: return alike(set) ? 1 : 0;
            case 3: return round(set) ? 1 : 0;
            default: return NONE;
        }
    }

    private static int sendings(State s, State t, int[] to, int at) {
        if (at == s.n) {
            return 1;
        }
        int sum = 0;
        for (int p = 0; p < t.n; p++) {
            boolean can = true;
            for (int q = 0; q < at; q++) {
                can &= to[q] != p && s.m[q][at] == t.m[to[q]][p];
            }
            if (can) {
                to[at] = p;
                sum += sendings(s, t, to, at + 1);
            }
        }
        return sum;
    }

    int like(int slot) {
        return slot < 0 || slot > 2 || slots[slot] == null ? NONE : sendings(s, slots[slot], new int[8], 0);
    }

    int count(int what) {
        int sum = 0;
        switch (what) {
            case 0: return s.n;
            case 1: return lines(s).size();
            case 2:
            case 3:
            case 4:
            case 5:
                for (int set = 1; set < 1 << s.n; set++) {
                    sum += set(set, what == 2 ? 2 : what == 3 ? 3 : what == 4 ? 0 : 1);
                }
                return sum;
            case 6: return sendings(s, s, new int[8], 0);
            case 7: return s.turned ? 1 : 0;
            case 8: return tape.size();
            case 9: return past.size();
            case 10:
                for (State slot : slots) {
                    sum += slot != null ? 1 : 0;
                }
                return sum;
            default: return NONE;
        }
    }
}
