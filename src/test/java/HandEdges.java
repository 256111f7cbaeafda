/**
 * Each sentence of the promises 6 to 11 and 27 to 30, and of "By hand" in the terms,
 * that names a boundary: a test of its own, under that sentence's words.
 */
public final class HandEdges {
    private static final int NONE = ArrowOrders.NONE;
    private static final String WAY = "posts a b c d;way a b c d;";
    private static final String EIGHT = "posts a b c d e f g h;";
    private static final String ALL_EIGHT = EIGHT + "heap a b c d e f g h;";
    /** Numbers that are no post of four, some of which a shift or a product would take for one. */
    private static final int[] NO_POSTS = {-1, 4, 5, 7, 8, 9, 31, 32, 33, 64, 256, -8, -31, -32, -64, Integer.MAX_VALUE, Integer.MIN_VALUE};

    private HandEdges() {
    }

    public static void main(String[] args) {
        lineComes();
        lineRefused();
        otherEdges();
        otherBegins();
        exchangeLines();
        exchangeRefused();
        bareAll();
        bareNone();
        bareRefused();
        beginTurns();
        beginFirstLineOnly();
        undoEach();
        undoBegin();
        undoNone();
        undoForty();
        undoRing();
        askedAnew();
        undoIsNoThing();
        refusedIsNoThing();
        likeHoldsNothing();
        likeNoSuch();
        likeExactly();
        holdSlots();
        holdNoSuch();
        holdAll();
        holdIsApart();
        restoreAll();
        restoreStays();
        restoreTape();
        restoreUndone();
        restoreRefused();
        countNames();
        countMost();
        countWithoutPosts();
        lastCall();
        Calls.close();
    }

    private static void due(String call, long got, long want) {
        Calls.due(call, got, want);
    }

    private static void due(String call, boolean got, boolean want) {
        Calls.due(call, got, want);
    }

    // ---- promises 6 to 11 ----

    private static void lineComes() {
        Calls.about("Promise 6: A LINE comes, or (it was there) goes: true");
        ArrowOrders x = Calls.read("posts a b c;");
        due("line(2, 0)", x.line(2, 0), true);
        Calls.nears(x, 4, 0, 1);
        due("line(2, 0)", x.line(2, 0), true);
        Calls.nears(x, 0, 0, 0);
        due("line(0, 2)", x.line(0, 2), true);
        due("line(2, 0)", x.line(2, 0), true);
        Calls.nears(x, 0, 0, 0);
        due("count(9)", x.count(9), 4);
        x = Calls.read(EIGHT);
        due("line(7, 6)", x.line(7, 6), true);
        Calls.nears(x, 0, 0, 0, 0, 0, 0, 128, 64);
    }

    private static void lineRefused() {
        Calls.about("Promise 6: false, and nothing happens: no such unlike POSTS");
        ArrowOrders x = Calls.read(WAY);
        for (int p : NO_POSTS) {
            due("line(" + p + ", 0)", x.line(p, 0), false);
            due("line(0, " + p + ")", x.line(0, p), false);
            due("line(" + p + ", " + p + ")", x.line(p, p), false);
        }
        for (int p = 0; p < 4; p++) {
            due("line(" + p + ", " + p + ")", x.line(p, p), false);
        }
        Calls.nears(x, 2, 5, 10, 4);
        due("count(9)", x.count(9), 0);
        due("line(0, 1), one post", Calls.read("posts a;").line(0, 1), false);
        due("line(0, 0), none", new ArrowOrders().line(0, 0), false);
    }

    private static void otherEdges() {
        Calls.about("Promise 7: The network becomes the OTHER one: how many LINES");
        due("other(), no posts", new ArrowOrders().other(), 0);
        due("other(), one post", Calls.read("posts a;").other(), 0);
        ArrowOrders x = Calls.read(EIGHT);
        due("other(), no lines", x.other(), 28);
        Calls.nears(x, 254, 253, 251, 247, 239, 223, 191, 127);
        due("other(), all lines", x.other(), 0);
        Calls.nears(x, 0, 0, 0, 0, 0, 0, 0, 0);
        x = Calls.read(WAY);
        due("other()", x.other(), 3);
        Calls.nears(x, 12, 8, 1, 3);
        x = new ArrowOrders();
        x.other();
        due("count(9), no posts", x.count(9), 1);
        due("undo(), no posts", x.undo(), true);
    }

    private static void otherBegins() {
        Calls.about("Promise 7: The network becomes the OTHER one (no more happens)");
        ArrowOrders x = Calls.read("posts a b c;way a b;");
        x.begin();
        x.hold(0);
        x.other();
        due("count(7)", x.count(7), 1);
        due("of(0, 3)", x.of(0, 3), 0);
        due("count(9)", x.count(9), 2);
        due("count(10)", x.count(10), 1);
        x.restore(0);
        Calls.nears(x, 2, 1, 0);
    }

    private static void exchangeLines() {
        Calls.about("Promise 8: Two POSTS exchange their LINES: true");
        ArrowOrders x = Calls.read(WAY);
        due("exchange(1, 3)", x.exchange(1, 3), true);
        Calls.nears(x, 8, 4, 10, 5);
        x = Calls.read(WAY);
        due("exchange(0, 1), a line between", x.exchange(0, 1), true);
        Calls.nears(x, 6, 1, 9, 4);
        due("exchange(1, 0), back", x.exchange(1, 0), true);
        Calls.nears(x, 2, 5, 10, 4);
        x = Calls.read("posts a b c;way a b;way a c;");
        due("exchange(1, 2), no change", x.exchange(1, 2), true);
        Calls.nears(x, 6, 1, 1);
        x = Calls.read(EIGHT + "way a b c;");
        due("exchange(1, 7)", x.exchange(1, 7), true);
        Calls.nears(x, 128, 0, 128, 0, 0, 0, 0, 5);
    }

    private static void exchangeRefused() {
        Calls.about("Promise 8: false: no such unlike ones");
        ArrowOrders x = Calls.read(WAY);
        for (int p : NO_POSTS) {
            due("exchange(" + p + ", 0)", x.exchange(p, 0), false);
            due("exchange(1, " + p + ")", x.exchange(1, p), false);
            due("exchange(" + p + ", " + p + ")", x.exchange(p, p), false);
        }
        for (int p = 0; p < 4; p++) {
            due("exchange(" + p + ", " + p + ")", x.exchange(p, p), false);
        }
        Calls.nears(x, 2, 5, 10, 4);
        due("count(9)", x.count(9), 0);
        due("exchange(0, 1), no posts", new ArrowOrders().exchange(0, 1), false);
    }

    private static void bareAll() {
        Calls.about("Promise 9: All LINES of a POST go: how many");
        ArrowOrders x = Calls.read(ALL_EIGHT);
        due("bare(7)", x.bare(7), 7);
        Calls.nears(x, 126, 125, 123, 119, 111, 95, 63, 0);
        due("bare(0)", x.bare(0), 6);
        Calls.nears(x, 0, 124, 122, 118, 110, 94, 62, 0);
        due("count(9)", x.count(9), 2);
        x.undo();
        Calls.nears(x, 126, 125, 123, 119, 111, 95, 63, 0);
        x = Calls.read(ALL_EIGHT);
        due("bare(0), the last one's, too", x.bare(0), 7);
        Calls.nears(x, 0, 252, 250, 246, 238, 222, 190, 126);
        x = Calls.read(WAY);
        due("bare(3), of one line", x.bare(3), 1);
        due("count(9)", x.count(9), 1);
        due("undo()", x.undo(), true);
        Calls.nears(x, 2, 5, 10, 4);
    }

    private static void bareNone() {
        Calls.about("Promise 9: (0: none, no thing done)");
        ArrowOrders x = Calls.read("posts a b c;way a b;");
        due("bare(2)", x.bare(2), 0);
        due("count(9)", x.count(9), 0);
        due("undo()", x.undo(), false);
        x.line(0, 1);
        due("bare(1)", x.bare(1), 0);
        due("count(9)", x.count(9), 1);
        due("undo()", x.undo(), true);
        Calls.nears(x, 2, 1, 0);
    }

    private static void bareRefused() {
        Calls.about("Promise 9: NONE: no such one");
        ArrowOrders x = Calls.read(WAY);
        for (int p : NO_POSTS) {
            due("bare(" + p + ")", x.bare(p), NONE);
        }
        Calls.nears(x, 2, 5, 10, 4);
        due("count(9)", x.count(9), 0);
        due("bare(0), no posts", new ArrowOrders().bare(0), NONE);
    }

    private static void beginTurns() {
        Calls.about("Promise 10: ARROWED begins the other way, or no more so: true, if it does then");
        ArrowOrders x = new ArrowOrders();
        due("begin(), no posts", x.begin(), true);
        due("count(7)", x.count(7), 1);
        due("begin()", x.begin(), false);
        due("count(7)", x.count(7), 0);
        due("count(9)", x.count(9), 2);
        x = Calls.read("posts a b;way a b;");
        due("of(0, 3)", x.of(0, 3), 1);
        due("begin()", x.begin(), true);
        due("of(0, 3)", x.of(0, 3), 0);
        due("begin()", x.begin(), false);
        due("of(0, 3)", x.of(0, 3), 1);
        x = Calls.read("posts a b c d e;way a b c d e a;");
        due("begin(), not ordered", x.begin(), true);
        due("of(0, 3), not ordered", x.of(0, 3), -2);
    }

    private static void beginFirstLineOnly() {
        Calls.about("begun the other way, of the very first LINE the other way");
        ArrowOrders x = Calls.read("posts a b c d e f;way a b;way c d;way e f;");
        x.begin();
        due("of(0, 3)", x.of(0, 3), 0);
        due("of(1, 3)", x.of(1, 3), 1);
        due("of(2, 3)", x.of(2, 3), 1);
        x.line(0, 1);
        due("of(0, 3), another first line", x.of(0, 3), 0);
        due("of(1, 3)", x.of(1, 3), 1);
    }

    private static void undoEach() {
        Calls.about("Promise 11: The last thing done by hand is undone: true");
        ArrowOrders x = Calls.read(WAY);
        x.line(0, 3);
        due("undo() of a line come", x.undo(), true);
        Calls.nears(x, 2, 5, 10, 4);
        x.line(1, 2);
        due("undo() of a line gone", x.undo(), true);
        Calls.nears(x, 2, 5, 10, 4);
        x.other();
        due("undo() of other", x.undo(), true);
        Calls.nears(x, 2, 5, 10, 4);
        x.exchange(0, 2);
        Calls.nears(x, 10, 5, 2, 1);
        due("undo() of exchange", x.undo(), true);
        Calls.nears(x, 2, 5, 10, 4);
        x.bare(2);
        due("undo() of bare", x.undo(), true);
        Calls.nears(x, 2, 5, 10, 4);
        x.line(0, 1);
        x.line(1, 2);
        due("undo() of the last", x.undo(), true);
        Calls.nears(x, 0, 4, 10, 4);
        due("undo() of the one ahead", x.undo(), true);
        Calls.nears(x, 2, 5, 10, 4);
    }

    private static void undoBegin() {
        Calls.about("Promise 11: (begin(), too)");
        ArrowOrders x = Calls.read("posts a b;way a b;");
        x.begin();
        due("undo()", x.undo(), true);
        due("count(7)", x.count(7), 0);
        due("of(0, 3)", x.of(0, 3), 1);
        x.begin();
        x.begin();
        due("undo()", x.undo(), true);
        due("count(7)", x.count(7), 1);
        due("of(0, 3)", x.of(0, 3), 0);
        x.line(0, 1);
        due("undo() of a line", x.undo(), true);
        due("count(7) as it was", x.count(7), 1);
        Calls.nears(x, 2, 1);
    }

    private static void undoNone() {
        Calls.about("Promise 11: false: there is none");
        ArrowOrders x = new ArrowOrders();
        due("undo(), new", x.undo(), false);
        x = Calls.read(WAY);
        due("undo(), read", x.undo(), false);
        Calls.nears(x, 2, 5, 10, 4);
        x.line(0, 1);
        due("undo()", x.undo(), true);
        due("undo(), all undone", x.undo(), false);
        due("count(9)", x.count(9), 0);
        Calls.nears(x, 2, 5, 10, 4);
    }

    private static void undoForty() {
        Calls.about("Promise 11: (the last 40 can be)");
        for (int things = 39; things <= 42; things++) {
            ArrowOrders x = Calls.read(EIGHT);
            for (int i = 0; i < things; i++) {
                x.line(i % 7, 7);
                due("count(9) behind " + (i + 1), x.count(9), Math.min(40, i + 1));
            }
            for (int i = 0; i < Math.min(40, things); i++) {
                due("undo " + i + " of " + things, x.undo(), true);
            }
            due("one more of " + things, x.undo(), false);
            due("count(9)", x.count(9), 0);
            due("count(1) of " + things, x.count(1), things == 41 ? 1 : things == 42 ? 2 : 0);
        }
    }

    private static void undoRing() {
        Calls.about("Promise 11: the last 40, however often they come round");
        ArrowOrders x = Calls.read(EIGHT);
        for (int i = 0; i < 95; i++) {
            x.line(i % 7, 7);
        }
        for (int i = 94; i >= 70; i--) {
            due("undo " + i, x.undo(), true);
            due("near(7) without " + i, x.near(7), linesBehind(i));
        }
        due("count(9)", x.count(9), 15);
        for (int i = 70; i < 76; i++) {
            x.line(i % 7, 7);
        }
        due("count(9)", x.count(9), 21);
        for (int i = 75; i >= 55; i--) {
            due("undo " + i, x.undo(), true);
            due("near(7) without " + i, x.near(7), linesBehind(i));
        }
        due("one more", x.undo(), false);
    }

    /** Lines of post 7 when so many lines were turned round and round. */
    private static int linesBehind(int turns) {
        int near = 0;
        for (int i = 0; i < turns; i++) {
            near ^= 1 << i % 7;
        }
        return near;
    }

    /** Asked all, changed, asked all again: as if the network had been read so. */
    private static void askedAnew() {
        Calls.about("By hand: .. what is asked then, is asked of what it is then");
        ArrowOrders x = Calls.read("posts a b c d e;way a b c d e a;");
        Calls.same("read", x, Calls.read("posts a b c d e;way a b c d e a;"));
        x.line(4, 0);
        Calls.same("a line gone", x, Calls.read("posts a b c d e;way a b c d e;"));
        x.other();
        Calls.same("the other one", x, Calls.read("posts a b c d e;way b d a c e b;way a e;"));
        x.exchange(2, 4);
        Calls.same("exchanged", x, Calls.read("posts a b c d e;way b d a e c b;way a c;"));
        x = Calls.read(ALL_EIGHT);
        Calls.same("all", x, Calls.read(ALL_EIGHT));
        x.bare(0);
        Calls.same("bare", x, Calls.read(EIGHT + "heap b c d e f g h;"));
        x.undo();
        Calls.same("undone", x, Calls.read(ALL_EIGHT));
        x = Calls.read(WAY);
        x.hold(0);
        x.bare(1);
        Calls.same("one line", x, Calls.read("posts a b c d;way c d;"));
        x.restore(0);
        Calls.same("restored", x, Calls.read(WAY));
        x.begin();
        due("post(0, 0), begun the other way", x.post(0, 0), 1);
        due("order(3), begun the other way", x.order(3), 3);
        x.begin();
        Calls.same("begun the first way", x, Calls.read(WAY));
    }

    private static void undoIsNoThing() {
        Calls.about("Promise 11: undo() itself is no thing done by hand");
        ArrowOrders x = Calls.read(WAY);
        x.line(0, 1);
        x.line(2, 3);
        due("count(9)", x.count(9), 2);
        due("undo()", x.undo(), true);
        due("count(9)", x.count(9), 1);
        due("undo()", x.undo(), true);
        due("undo()", x.undo(), false);
        Calls.nears(x, 2, 5, 10, 4);
    }

    private static void refusedIsNoThing() {
        Calls.about("By hand: what was refused, or only asked, is no thing done");
        ArrowOrders x = Calls.read(WAY);
        x.line(0, 1);
        x.line(0, 4);
        x.line(1, 1);
        x.exchange(2, 2);
        x.exchange(-1, 2);
        x.bare(4);
        x.bare(0);
        x.hold(3);
        x.hold(0);
        x.restore(2);
        x.restore(-1);
        x.feed(0, 0, 0, 0, 0);
        x.back(21);
        x.read();
        x.network(3);
        x.post(1, 6);
        x.straight(0, 0);
        x.chain(0);
        x.colours(3);
        x.like(0);
        x.set(3, 2);
        due("count(9)", x.count(9), 1);
        Calls.nears(x, 0, 4, 10, 4);
        due("undo()", x.undo(), true);
        Calls.nears(x, 2, 5, 10, 4);
    }

    // ---- promises 27 to 29 ----

    private static void likeHoldsNothing() {
        Calls.about("Promise 27: NONE: it holds nothing");
        ArrowOrders x = Calls.read(WAY);
        for (int slot = 0; slot < 3; slot++) {
            due("like(" + slot + ")", x.like(slot), NONE);
        }
        x.hold(1);
        due("like(0)", x.like(0), NONE);
        due("like(1)", x.like(1), 2);
        due("like(2)", x.like(2), NONE);
        x = new ArrowOrders();
        due("like(0), new", x.like(0), NONE);
        x.hold(0);
        due("like(0), no posts", x.like(0), 1);
    }

    private static void likeNoSuch() {
        Calls.about("Promise 27: NONE: .. no such one");
        ArrowOrders x = Calls.read(WAY);
        x.hold(0);
        x.hold(1);
        x.hold(2);
        for (int slot : new int[] {-1, 3, 4, 31, 32, 33, 34, 64, -32, -31, Integer.MAX_VALUE, Integer.MIN_VALUE}) {
            due("like(" + slot + ")", x.like(slot), NONE);
        }
    }

    private static void likeExactly() {
        Calls.about("Promise 27: ways to send POSTS to its POSTS, each to one of its own, by which LINES go just to LINES");
        ArrowOrders x = Calls.read("posts a b c d;way a b c;");
        x.hold(0);
        due("like(0)", x.like(0), 2);
        x.line(0, 2);
        due("like(0), a line more", x.like(0), 0);
        x.line(0, 1);
        x.line(1, 2);
        due("like(0), a line less", x.like(0), 0);
        x.line(2, 3);
        due("like(0), another way", x.like(0), 2);
        x.line(0, 2);
        x.line(0, 1);
        due("like(0), as many lines apart", x.like(0), 0);
        x = Calls.read(EIGHT);
        x.hold(2);
        due("like(2), most", x.like(2), 40320);
        x.line(0, 7);
        due("like(2), one line", x.like(2), 0);
        x.hold(2);
        due("like(2), held anew", x.like(2), 1440);
        x = Calls.read("posts a b c d e f;heap a b c;heap d e f;");
        x.hold(0);
        Calls.about("Promise 27: as many LINES at each POST are not enough");
        due("like(0), two threes", x.like(0), 72);
        x.line(0, 1);
        x.line(3, 4);
        x.line(0, 3);
        x.line(1, 4);
        due("like(0), a round of six", x.like(0), 0);
        due("count(6), a round of six", x.count(6), 12);
    }

    private static void holdSlots() {
        Calls.about("Promise 28: All is held in a SLOT (0 .. 2): true");
        ArrowOrders x = new ArrowOrders();
        for (int slot = 0; slot < 3; slot++) {
            due("hold(" + slot + "), no posts", x.hold(slot), true);
            due("count(10)", x.count(10), slot + 1);
        }
        x = Calls.read(WAY);
        due("count(10), read", x.count(10), 0);
        due("hold(2)", x.hold(2), true);
        due("hold(2)", x.hold(2), true);
        due("count(10)", x.count(10), 1);
        due("hold(0)", x.hold(0), true);
        due("count(10)", x.count(10), 2);
        due("hold(1)", x.hold(1), true);
        due("count(10)", x.count(10), 3);
    }

    private static void holdNoSuch() {
        Calls.about("Promise 28: false: no such one");
        ArrowOrders x = Calls.read(WAY);
        for (int slot : new int[] {-1, 3, 4, 32, 33, 34, -32, 256, Integer.MAX_VALUE, Integer.MIN_VALUE}) {
            due("hold(" + slot + ")", x.hold(slot), false);
        }
        due("count(10)", x.count(10), 0);
        for (int slot = 0; slot < 3; slot++) {
            due("restore(" + slot + ")", x.restore(slot), false);
        }
    }

    private static void holdAll() {
        Calls.about("Promise 28: All is held (the last told in a SLOT, each SLOT by itself)");
        ArrowOrders x = Calls.read("posts a b c;");
        x.hold(0);
        x.line(0, 1);
        x.begin();
        x.hold(1);
        x.line(1, 2);
        x.hold(2);
        x.restore(1);
        Calls.nears(x, 2, 1, 0);
        due("count(7)", x.count(7), 1);
        x.restore(0);
        Calls.nears(x, 0, 0, 0);
        due("count(7)", x.count(7), 0);
        x.restore(2);
        Calls.nears(x, 2, 5, 2);
        x.hold(0);
        x.restore(1);
        x.restore(0);
        Calls.nears(x, 2, 5, 2);
    }

    private static void holdIsApart() {
        Calls.about("Promise 28: what is held stays so, whatever is done by hand");
        ArrowOrders x = Calls.read(WAY);
        x.line(0, 3);
        x.hold(0);
        due("count(9), held", x.count(9), 1);
        x.undo();
        Calls.nears(x, 2, 5, 10, 4);
        x.other();
        x.bare(0);
        x.begin();
        x.exchange(1, 2);
        x.restore(0);
        Calls.nears(x, 10, 5, 10, 5);
        due("count(7)", x.count(7), 0);
    }

    private static void restoreAll() {
        Calls.about("Promise 29: All of the network is as a SLOT holds it: true");
        ArrowOrders x = Calls.read(WAY);
        x.begin();
        x.hold(2);
        x.begin();
        x.other();
        due("restore(2)", x.restore(2), true);
        Calls.nears(x, 2, 5, 10, 4);
        due("count(7)", x.count(7), 1);
        due("of(0, 3)", x.of(0, 3), 0);
        due("network(3)", x.network(3), 2);
    }

    private static void restoreStays() {
        Calls.about("Promise 29: (it stays there");
        ArrowOrders x = Calls.read(WAY);
        x.hold(0);
        x.bare(1);
        due("restore(0)", x.restore(0), true);
        due("count(10)", x.count(10), 1);
        x.line(0, 3);
        due("like(0)", x.like(0), 0);
        due("restore(0)", x.restore(0), true);
        Calls.nears(x, 2, 5, 10, 4);
        due("like(0)", x.like(0), 2);
    }

    private static void restoreTape() {
        Calls.about("Promise 29: the tape and place() stay as they are");
        ArrowOrders x = Calls.read("posts a b;way a b;");
        x.hold(0);
        Calls.tell(x, "posts a;way a");
        due("read()", x.read(), 1);
        Calls.tell(x, "posts c d;way c d;");
        due("restore(0)", x.restore(0), true);
        due("count(8)", x.count(8), 18);
        due("place()", x.place(), 13);
        x.line(0, 1);
        due("read()", x.read(), 0);
        Calls.nears(x, 2, 1);
        x.hold(0);
        x.restore(0);
        due("place()", x.place(), NONE);
    }

    private static void restoreUndone() {
        Calls.about("Promise 29: nothing can be undone then)");
        ArrowOrders x = Calls.read(WAY);
        x.line(0, 1);
        x.hold(0);
        x.line(0, 2);
        due("restore(0)", x.restore(0), true);
        due("count(9)", x.count(9), 0);
        due("undo()", x.undo(), false);
        Calls.nears(x, 0, 4, 10, 4);
        x.line(0, 1);
        due("count(9)", x.count(9), 1);
        due("undo()", x.undo(), true);
        due("undo()", x.undo(), false);
        Calls.nears(x, 0, 4, 10, 4);
    }

    private static void restoreRefused() {
        Calls.about("Promise 29: false, and nothing happens: no such one, it holds nothing");
        ArrowOrders x = Calls.read(WAY);
        x.hold(1);
        x.begin();
        x.line(0, 1);
        for (int slot : new int[] {0, 2, -1, 3, 4, 32, 33, -31, 65, Integer.MAX_VALUE, Integer.MIN_VALUE}) {
            due("restore(" + slot + ")", x.restore(slot), false);
        }
        Calls.nears(x, 0, 4, 10, 4);
        due("count(7)", x.count(7), 1);
        due("count(9)", x.count(9), 2);
        due("count(10)", x.count(10), 1);
        due("undo()", x.undo(), true);
        due("restore(0), new", new ArrowOrders().restore(0), false);
    }

    // ---- promise 30, and the end ----

    private static void countNames() {
        Calls.about("Promise 30: NONE for others");
        ArrowOrders x = Calls.read(WAY);
        for (int what : new int[] {-1, 11, 12, 32, 256, -32, Integer.MAX_VALUE, Integer.MIN_VALUE}) {
            due("count(" + what + ")", x.count(what), NONE);
        }
    }

    private static void countMost() {
        Calls.about("Promise 30: 0 .. 6, the most there can be");
        ArrowOrders x = Calls.read(ALL_EIGHT);
        int[] all = {8, 28, 255, 0, 255, 8, 40320};
        int[] none = {8, 0, 255, 0, 8, 255, 40320};
        for (int what = 0; what < all.length; what++) {
            due("count(" + what + "), all lines", x.count(what), all[what]);
        }
        x.other();
        for (int what = 0; what < none.length; what++) {
            due("count(" + what + "), no lines", x.count(what), none[what]);
        }
        Calls.about("Promise 30: 3 ROUNDS");
        due("three", Calls.read("posts a b c;heap a b c;").count(3), 0);
        due("four", Calls.read("posts a b c d;way a b c d a;").count(3), 1);
        due("four, a line across", Calls.read("posts a b c d;way a b c d a c;").count(3), 0);
        due("eight", Calls.read(EIGHT + "way a b c d e f g h a;").count(3), 1);
        due("each to each of four", Calls.read(EIGHT + "heap a b c d e f g h;").count(3), 0);
        x = Calls.read(EIGHT + "heap a b c d;heap e f g h;");
        x.other();
        due("four against four", x.count(3), 36);
        due("two fours", Calls.read(EIGHT + "way a b c d a;way e f g h e;").count(3), 2);
    }

    private static void countWithoutPosts() {
        Calls.about("Promise 30: 4 CHAINS (not empty), 5 sets APART (not empty), 2 sets that are ALIKE: without POSTS, with one");
        int[] none = {0, 0, 0, 0, 0, 0, 1, 0, 0, 0, 0};
        int[] one = {1, 0, 1, 0, 1, 1, 1, 0, 0, 0, 0};
        ArrowOrders x = Calls.read("posts;");
        ArrowOrders y = Calls.read("posts a;");
        for (int what = 0; what < none.length; what++) {
            due("count(" + what + "), no posts", x.count(what), none[what]);
            due("count(" + what + "), one post", y.count(what), one[what]);
        }
    }

    private static void lastCall() {
        Calls.about("An object is used for at most 512 calls after it has been made");
        ArrowOrders x = new ArrowOrders();
        x.feed(0x706F7374, 0x73206120, 0x623B7761, 0x79206120, 0x623B2020);
        x.read();
        for (int call = 3; call < 512; call++) {
            due("call " + call + ": line(0, 1)", x.line(0, 1), true);
        }
        due("call 512: network(3)", x.network(3), 1);
        ArrowOrders y = new ArrowOrders();
        for (int call = 1; call < 512; call++) {
            due("call " + call + ": begin()", y.begin(), call % 2 == 1);
        }
        due("call 512: count(9)", y.count(9), 40);
    }
}
