/**
 * Each sentence of "Terms II" and of the promises 12 to 26 that names a boundary: a
 * test of its own, under that sentence's words.
 */
public final class ArrowEdges {
    private static final int NONE = ArrowOrders.NONE;
    private static final int NOT_ORDERED = -2;
    private static final String WAY = "posts a b c d;way a b c d;";
    private static final String FIVE = "posts a b c d e;way a b c d e a;";
    private static final String SIX = "posts a b c d e f;way a b c d e f a;";
    private static final String PRISM = "posts a b c d e f;heap a c e;heap b d f;way a d;way b e;way c f;";
    /** A three with a line more at each of its posts. */
    private static final String TRIPOD = "posts a b c d e f;heap a b c;way a d;way b e;way c f;";
    private static final String EIGHT = "posts a b c d e f g h;";
    private static final String ALL_EIGHT = EIGHT + "heap a b c d e f g h;";
    /** The sets of three things, each joined to those that hold it or that it holds. */
    private static final String CUBE = EIGHT + "heap a b d h;heap a b f h;heap a c d h;heap a c g h;heap a e f h;heap a e g h;";
    /** Numbers that are no post of four, some of which a shift or a product would take for one. */
    private static final int[] NO_POSTS = {-1, 4, 5, 7, 8, 9, 31, 32, 33, 64, 256, -8, -31, -32, -64, Integer.MAX_VALUE, Integer.MIN_VALUE};
    private static final int[] FAR_OUT = {-2, 32, 33, 256, -32, -256, Integer.MAX_VALUE, Integer.MIN_VALUE};

    private ArrowEdges() {
    }

    public static void main(String[] args) {
        forcesAway();
        forcesToward();
        forcesUnlike();
        forcesAmongSome();
        classItToo();
        oddClass();
        shortestWalk();
        firstWalk();
        noWalk();
        orderedWithoutLines();
        arrowedLeast();
        steps();
        ways();
        levelLongest();
        levelLeast();
        coverBetween();
        straightFirst();
        straightNumbers();
        chainsAndApart();
        chainsThatTakeAll();
        downSets();
        jumps();
        signs();
        colourings();
        crossedRows();
        crossedOtherFirst();
        alikeSets();
        rounds();
        noneBeforeNotOrdered();
        ofEdges();
        farEdges();
        nearEdges();
        forcesNone();
        klassEdges();
        walkEdges();
        networkEdges();
        networkWithoutPosts();
        underEdges();
        postEdges();
        postNotCrossed();
        orderEdges();
        orderWithoutPosts();
        orderFirstSuch();
        chainEdges();
        straightEdges();
        signEdges();
        coloursEdges();
        setEdges();
        Calls.close();
    }

    private static void due(String call, long got, long want) {
        Calls.due(call, got, want);
    }

    private static void row(String call, ArrowOrders x, int number, int... want) {
        for (int k = 0; k < want.length; k++) {
            due(call + " straight(" + number + ", " + k + ")", x.straight(number, k), want[k]);
        }
    }

    private static void walk(ArrowOrders x, int a, int b, int... want) {
        due("klass(" + a + ", " + b + ", 3)", x.klass(a, b, 3), want.length);
        for (int i = 0; i < want.length; i++) {
            due("walk(" + a + ", " + b + ", " + i + ")", x.walk(a, b, i), want[i]);
        }
        due("walk(" + a + ", " + b + ", " + want.length + ")", x.walk(a, b, want.length), NONE);
    }

    private static void posts(ArrowOrders x, int what, int... want) {
        for (int p = 0; p < want.length; p++) {
            due("post(" + p + ", " + what + ")", x.post(p, what), want[p]);
        }
    }

    private static void lines(ArrowOrders x, int what, int... want) {
        due("count(1)", x.count(1), want.length);
        for (int line = 0; line < want.length; line++) {
            due("of(" + line + ", " + what + ")", x.of(line, what), want[line]);
        }
    }

    // ---- II: arrows ----

    private static void forcesAway() {
        Calls.about("it FORCES: an ARROW from a to c, if there is a LINE between a and c, none between b and c");
        ArrowOrders x = Calls.read("posts a b c d;way b a c;way a d b;");
        due("a line, none between b and c", x.forces(0, 1, 0, 2), 1);
        due("a line between b and c, too", x.forces(0, 1, 0, 3), 0);
        due("no line between a and c", x.forces(1, 0, 1, 2), NONE);
        due("back", x.forces(0, 2, 0, 1), 1);
    }

    private static void forcesToward() {
        Calls.about("it FORCES: .. one from c to b, if there is a LINE between c and b, none between a and c");
        ArrowOrders x = Calls.read("posts a b c d;way a b c;way a d b;");
        due("a line, none between a and c", x.forces(0, 1, 2, 1), 1);
        due("a line between a and c, too", x.forces(0, 1, 3, 1), 0);
        due("no line between c and b", x.forces(1, 0, 2, 0), NONE);
        due("back", x.forces(2, 1, 0, 1), 1);
        due("away from b", x.forces(0, 1, 1, 2), 0);
        due("to a", x.forces(1, 2, 0, 1), 0);
    }

    private static void forcesUnlike() {
        Calls.about("(b and c unlike), (a and c unlike)");
        ArrowOrders x = Calls.read("posts a b;way a b;");
        due("itself", x.forces(0, 1, 0, 1), 0);
        due("itself, turned", x.forces(1, 0, 1, 0), 0);
        due("against it", x.forces(0, 1, 1, 0), 0);
        due("klass(0, 1, 1)", x.klass(0, 1, 1), 0);
        x = Calls.read("posts a b c d;way a b;way c d;");
        due("of other posts", x.forces(0, 1, 2, 3), 0);
    }

    private static void forcesAmongSome() {
        Calls.about("Among some LINES it FORCES (those left, when ARROWED)");
        ArrowOrders x = Calls.read("posts a b c;heap a b c;");
        due("klass(0, 2, 0), among all", x.klass(0, 2, 0), 1);
        due("forces(0, 2, 1, 2), among all", x.forces(0, 2, 1, 2), 0);
        lines(x, 2, 0, 1, 1);
        lines(x, 3, 1, 1, 1);
        due("network(1)", x.network(1), 6);
        due("network(4)", x.network(4), 2);
        x = Calls.read("posts a b c d;way a b;way b c;way a c d;");
        // Left behind a, b: c joins a, b and d, of which no two are joined now.
        lines(x, 2, 0, 1, 1, 1);
        lines(x, 3, 1, 1, 1, 0);
        due("klass(0, 2, 0), among all", x.klass(0, 2, 0), 3);
        due("klass(0, 1, 0), among all", x.klass(0, 1, 0), 1);
    }

    private static void classItToo() {
        Calls.about("CLASS of an ARROW: all that it FORCES, these FORCE, and so on, it too");
        ArrowOrders x = Calls.read("posts a b;way a b;");
        due("klass(0, 1, 0)", x.klass(0, 1, 0), 1);
        due("klass(0, 1, 2)", x.klass(0, 1, 2), 1);
        due("network(1)", x.network(1), 2);
        x = Calls.read(EIGHT + "way a b c d e f g h;");
        due("klass(0, 1, 0), and so on", x.klass(0, 1, 0), 7);
        due("klass(0, 1, 2)", x.klass(0, 1, 2), 127);
        due("klass(7, 6, 0)", x.klass(7, 6, 0), 7);
        due("network(1)", x.network(1), 2);
    }

    private static void oddClass() {
        Calls.about("ODD: a CLASS that has two ARROWS against each other");
        ArrowOrders x = Calls.read(FIVE);
        due("klass(0, 1, 0)", x.klass(0, 1, 0), 10);
        due("klass(0, 1, 1)", x.klass(0, 1, 1), 1);
        due("network(1)", x.network(1), 1);
        due("network(2)", x.network(2), 1);
        x = Calls.read(SIX);
        due("klass(0, 1, 0), six", x.klass(0, 1, 0), 6);
        due("klass(0, 1, 1), six", x.klass(0, 1, 1), 0);
        due("klass(0, 1, 2), six", x.klass(0, 1, 2), 63);
        due("network(2), six", x.network(2), 0);
        x = Calls.read("posts a b c d e f g;way a b c d e a;way f g;");
        due("klass(5, 6, 1)", x.klass(5, 6, 1), 0);
        due("klass(2, 3, 1)", x.klass(2, 3, 1), 1);
        due("network(1)", x.network(1), 3);
        due("network(2)", x.network(2), 1);
        due("network(0)", x.network(0), 0);
    }

    private static void shortestWalk() {
        Calls.about("FORCED WALK of an ARROW: a shortest row of ARROWS, it ahead, each FORCED by the one ahead, to the one against it");
        ArrowOrders x = Calls.read(FIVE);
        walk(x, 0, 1, 1, 4, 28, 26, 10, 8);
        walk(x, 3, 2, 26, 10, 8, 32, 35, 19);
        x = Calls.read("posts a b c d e f g;way a b c d e f g a;");
        walk(x, 0, 1, 1, 6, 46, 44, 28, 26, 10, 8);
        x = Calls.read("posts a b c d e f;way a b c d e a;way a f;");
        walk(x, 5, 0, 40, 8, 10, 26, 28, 4, 5);
        walk(x, 0, 5, 5, 1, 17, 19, 35, 32, 40);
        x = Calls.read(TRIPOD);
        walk(x, 0, 1, 1, 3, 2, 42, 10, 12, 8);
    }

    private static void firstWalk() {
        Calls.about("(of several the first: ARROWS by the POST they come from, then by that to which they go)");
        walk(Calls.read(FIVE), 2, 1, 17, 1, 4, 28, 26, 10);
        walk(Calls.read("posts a b c d e f;way a b c d e a;way b f d;"), 0, 1, 1, 4, 28, 26, 10, 8);
        walk(Calls.read("posts a b c d e f;way a b c d e a;way c f e;"), 0, 1, 1, 4, 28, 26, 10, 8);
        walk(Calls.read("posts a b f d e c;way a b c d e a;way b f d;"), 0, 1, 1, 4, 28, 26, 10, 8);
        walk(Calls.read(TRIPOD), 2, 0, 16, 21, 17, 33, 1, 3, 2);
    }

    private static void noWalk() {
        Calls.about("none, if its CLASS is not ODD");
        ArrowOrders x = Calls.read(SIX);
        walk(x, 0, 1);
        walk(x, 5, 0);
        x = Calls.read("posts a b c d e f g;way a b c d e a;way f g;");
        walk(x, 5, 6);
        walk(x, 6, 5);
        due("klass(0, 1, 3)", x.klass(0, 1, 3), 6);
    }

    // ---- II: orders ----

    private static void orderedWithoutLines() {
        Calls.about("ORDERED: a network of which no ARROW's CLASS, among all LINES, is ODD");
        due("no posts", new ArrowOrders().network(0), 1);
        due("one post", Calls.read("posts a;").network(0), 1);
        due("no lines", Calls.read(EIGHT).network(0), 1);
        due("all lines", Calls.read(ALL_EIGHT).network(0), 1);
        due("seven in a round", Calls.read("posts a b c d e f g;way a b c d e f g a;").network(0), 0);
        due("eight in a round", Calls.read(EIGHT + "way a b c d e f g h a;").network(0), 1);
        due("a three with lines", Calls.read(TRIPOD).network(0), 0);
        due("three", Calls.read("posts a b c;heap a b c;").network(0), 1);
    }

    private static void arrowedLeast() {
        Calls.about("ARROWED: .. of the ARROW of the least of these, from its lesser POST to the greater one");
        ArrowOrders x = Calls.read("posts a b c d e;way d e;way b a c;");
        lines(x, 2, 0, 0, 1);
        lines(x, 3, 1, 1, 1);
        x = Calls.read("posts a b c d;way c a d;way b c;");
        lines(x, 3, 1, 1, 1);
        lines(x, 2, 0, 0, 0);
        x = Calls.read("posts a b c;way a c b;");
        lines(x, 3, 1, 1);
        due("of(0, 0)", x.of(0, 0), 0);
        x = Calls.read("posts a b c;way a b c;");
        lines(x, 3, 1, 0);
        x.begin();
        lines(x, 3, 0, 1);
    }

    private static void steps() {
        Calls.about("STEP of a LINE: with the how-many-eth CLASS (0 on)");
        ArrowOrders x = Calls.read(ALL_EIGHT);
        int line = 0;
        for (int a = 0; a < 8; a++) {
            for (int b = a + 1; b < 8; b++, line++) {
                due("of(" + line + ", 2)", x.of(line, 2), b - 1);
                due("of(" + line + ", 3)", x.of(line, 3), 1);
            }
        }
        due("network(4)", x.network(4), 7);
        x.begin();
        due("of(0, 2), the other way", x.of(0, 2), 0);
        due("of(0, 3), the other way", x.of(0, 3), 0);
        due("of(27, 2), the other way", x.of(27, 2), 6);
        lines(Calls.read("posts a b c d e f g h;way a b;way c d;way e f;way g h;"), 2, 0, 1, 2, 3);
        due("network(4), no lines", Calls.read(EIGHT).network(4), 0);
        due("network(4), one line", Calls.read("posts a b;way a b;").network(4), 1);
    }

    private static void ways() {
        Calls.about("WAYS: of all ways to give each LINE an ARROW how many have with two ARROWS from a to b, b to c one from a to c");
        due("no posts", new ArrowOrders().network(3), 1);
        due("no lines", Calls.read(EIGHT).network(3), 1);
        due("one line", Calls.read("posts a b;way a b;").network(3), 2);
        due("three", Calls.read("posts a b c;heap a b c;").network(3), 6);
        due("all lines", Calls.read(ALL_EIGHT).network(3), 40320);
        due("five in a round", Calls.read(FIVE).network(3), 0);
        due("five in a round, a line apart", Calls.read("posts a b c d e f g;way a b c d e a;way f g;").network(3), 0);
        due("six in a round", Calls.read(SIX).network(3), 2);
        due("four lines apart", Calls.read("posts a b c d e f g h;way a b;way c d;way e f;way g h;").network(3), 16);
        due("two fours", Calls.read("posts a b c d e f g h;heap a b c d;heap e f g h;").network(3), 576);
        due("a cube", Calls.read(CUBE).network(3), 12);
        ArrowOrders x = Calls.read("posts a b c d e f g h;way a b;way c d;way e f;way g h;");
        x.other();
        due("four pairs, each joined to each other", x.network(3), 24);
    }

    private static void levelLongest() {
        Calls.about("LEVEL of a POST: how many POSTS are in the longest row to it, each UNDER the next");
        // a under b under c, d under c.
        ArrowOrders x = Calls.read("posts a b c d;heap a b c;way c d;");
        posts(x, 0, 0, 1, 2, 0);
        posts(x, 1, 0, 1, 11, 0);
        posts(x, 2, 6, 4, 0, 4);
        due("order(7)", x.order(7), 2);
        posts(Calls.read(CUBE), 0, 0, 1, 1, 2, 1, 2, 2, 3);
        x = Calls.read("posts a b;way a b;");
        x.begin();
        posts(x, 0, 1, 0);
        due("order(7), of post 0 alone", x.order(7), 1);
    }

    private static void levelLeast() {
        Calls.about("LEVEL: .. without it");
        posts(Calls.read("posts a;"), 0, 0);
        posts(Calls.read(EIGHT), 0, 0, 0, 0, 0, 0, 0, 0, 0);
        posts(Calls.read(ALL_EIGHT), 0, 0, 1, 2, 3, 4, 5, 6, 7);
        due("order(7), all lines", Calls.read(ALL_EIGHT).order(7), 7);
        due("order(7), one post", Calls.read("posts a;").order(7), 0);
    }

    private static void coverBetween() {
        Calls.about("COVER: an ARROW from a to b that has no c between (a UNDER c, c UNDER b)");
        ArrowOrders x = Calls.read("posts a b c d;heap a b c;way c d;");
        posts(x, 3, 2, 4, 0, 4);
        due("order(1)", x.order(1), 3);
        x = Calls.read("posts a b;way a b;");
        posts(x, 3, 2, 0);
        x.begin();
        posts(x, 3, 0, 1);
        due("order(1), begun the other way", x.order(1), 1);
        x = Calls.read(ALL_EIGHT);
        posts(x, 3, 2, 4, 8, 16, 32, 64, 128, 0);
        due("order(1), all lines", x.order(1), 7);
        due("order(1), no lines", Calls.read(EIGHT).order(1), 0);
        x = Calls.read(CUBE);
        posts(x, 3, 22, 40, 72, 128, 96, 128, 128, 0);
        due("order(1), a cube", x.order(1), 12);
    }

    private static void straightFirst() {
        Calls.about("STRAIGHT: .. how many ways; the first (the least POST that can be ahead each time)");
        ArrowOrders x = Calls.read("posts a b c d;heap a b c;way c d;");
        due("order(0)", x.order(0), 3);
        posts(x, 4, 0, 1, 3, 2);
        due("order(0), all lines", Calls.read(ALL_EIGHT).order(0), 1);
        due("order(0), no lines", Calls.read(EIGHT).order(0), 40320);
        posts(Calls.read(EIGHT), 4, 0, 1, 2, 3, 4, 5, 6, 7);
        due("order(0), a cube", Calls.read(CUBE).order(0), 48);
        x = Calls.read("posts a b c;way a c;");
        x.begin();
        // c under a: b is the least that can be ahead of all.
        posts(x, 4, 2, 0, 1);
        row("begun the other way", x, 0, 1, 2, 0);
    }

    private static void straightNumbers() {
        Calls.about("STRAIGHT orders are numbered from 0 on, the first POST at which two are unlike telling");
        ArrowOrders x = Calls.read("posts a b c d;heap a b c;way c d;");
        row("a, b, d, c", x, 0, 0, 1, 3, 2);
        row("a, d, b, c", x, 1, 0, 3, 1, 2);
        row("d, a, b, c", x, 2, 3, 0, 1, 2);
        row("no more", x, 3, NONE, NONE, NONE, NONE);
        x = Calls.read(EIGHT);
        row("the first", x, 0, 0, 1, 2, 3, 4, 5, 6, 7);
        row("the second", x, 1, 0, 1, 2, 3, 4, 5, 7, 6);
        row("the last of post 0", x, 5039, 0, 7, 6, 5, 4, 3, 2, 1);
        row("the first of post 1", x, 5040, 1, 0, 2, 3, 4, 5, 6, 7);
        row("the last", x, 40319, 7, 6, 5, 4, 3, 2, 1, 0);
        due("straight(40320, 0)", x.straight(40320, 0), NONE);
    }

    private static void chainsAndApart() {
        Calls.about("CHAIN: a set of POSTS of which each two have a LINE; APART: of which no two have one");
        ArrowOrders x = Calls.read("posts a b c d;heap a b c;way c d;");
        int[] chains = {0, 1, 2, 3, 4, 5, 6, 7, 8, 12};
        int[] apart = {0, 1, 2, 4, 8, 9, 10};
        for (int set = 0; set < 16; set++) {
            due("set(" + set + ", 0)", x.set(set, 0), holds(chains, set));
            due("set(" + set + ", 1)", x.set(set, 1), holds(apart, set));
        }
        due("count(4)", x.count(4), chains.length - 1);
        due("count(5)", x.count(5), apart.length - 1);
        due("order(2)", x.order(2), 3);
        due("order(3)", x.order(3), 7);
        due("order(4)", x.order(4), 2);
        due("order(5)", x.order(5), 9);
    }

    private static int holds(int[] sets, int set) {
        for (int one : sets) {
            if (one == set) {
                return 1;
            }
        }
        return 0;
    }

    private static void chainsThatTakeAll() {
        Calls.about("CHAINS that take all: the fewest sets, each POST in one of them, that are CHAINS");
        due("order(6), no lines", Calls.read(EIGHT).order(6), 8);
        due("order(6), all lines", Calls.read(ALL_EIGHT).order(6), 1);
        due("order(6), one post", Calls.read("posts a;").order(6), 1);
        due("order(6), a cube", Calls.read(CUBE).order(6), 3);
        due("order(6), six in a round", Calls.read(SIX).order(6), 3);
        due("order(6), one fewer than posts", Calls.read("posts a b c;way a b;").order(6), 2);
        due("order(6), one fewer than eight", Calls.read(EIGHT + "way g h;").order(6), 7);
        // Post b must leave post a to post c: two of its own would need three in all.
        ArrowOrders x = Calls.read("posts a b c d;way c a b d;");
        due("order(6)", x.order(6), 2);
        int[] want = {0, 1, 0, 1};
        for (int p = 0; p < want.length; p++) {
            due("chain(" + p + ")", x.chain(p), want[p]);
        }
    }

    private static void downSets() {
        Calls.about("DOWN: a set of POSTS in which with a POST are all that are UNDER it (the empty one, too)");
        due("no posts", new ArrowOrders().order(8), 1);
        due("one post", Calls.read("posts a;").order(8), 2);
        due("no lines", Calls.read(EIGHT).order(8), 256);
        due("all lines", Calls.read(ALL_EIGHT).order(8), 9);
        due("a cube", Calls.read(CUBE).order(8), 20);
        due("a three and a line", Calls.read("posts a b c d;heap a b c;way c d;").order(8), 7);
        ArrowOrders x = Calls.read("posts a b;way a b;");
        due("a line", x.order(8), 3);
        x.begin();
        due("a line, begun the other way", x.order(8), 3);
    }

    private static void jumps() {
        Calls.about("JUMPS of a STRAIGHT order: how often two side by side in it have no LINE");
        due("no posts", new ArrowOrders().order(9), 0);
        due("one post", Calls.read("posts a;").order(9), 0);
        due("two posts", Calls.read("posts a b;").order(9), 1);
        due("a line", Calls.read("posts a b;way a b;").order(9), 0);
        due("no lines", Calls.read(EIGHT).order(9), 7);
        due("all lines", Calls.read(ALL_EIGHT).order(9), 0);
        due("a three and a line", Calls.read("posts a b c d;heap a b c;way c d;").order(9), 1);
        // The first straight order has three: a c b d.
        ArrowOrders x = Calls.read("posts a b c d;way a c;way b d;");
        due("two lines", x.order(9), 1);
        x = Calls.read("posts a b c d;way a d;way b d;way b c;");
        due("a, b, c, d: b under d and c, a under d", x.order(9), 1);
    }

    private static void signs() {
        Calls.about("SIGN of a, b (a is UNDER b, or is b): of a, a 1; else less the sum of the SIGNS of a, c");
        ArrowOrders x = Calls.read(CUBE);
        int[] fromNone = {1, -1, -1, 1, -1, 1, 1, -1};
        for (int b = 0; b < 8; b++) {
            due("a cube: sign(0, " + b + ")", x.sign(0, b), fromNone[b]);
            due("a cube: sign(" + b + ", " + b + ")", x.sign(b, b), 1);
        }
        due("a cube: sign(1, 7)", x.sign(1, 7), 1);
        due("a cube: sign(1, 2)", x.sign(1, 2), 0);
        due("a cube: sign(7, 0)", x.sign(7, 0), 0);
        x = Calls.read(EIGHT + "heap a b h;heap a c h;heap a d h;heap a e h;heap a f h;heap a g h;");
        due("six between", x.sign(0, 7), 5);
        x = Calls.read(ALL_EIGHT);
        x = Calls.read("posts a b c d;heap a b d;heap a c d;");
        due("one after the other: sign(1, 3)", x.sign(1, 3), -1);
        due("one after the other: sign(2, 3)", x.sign(2, 3), -1);
        due("one after the other: sign(0, 3)", x.sign(0, 3), 1);
        x = Calls.read("posts a b;way a b;");
        x.begin();
        due("begun the other way: sign(1, 0)", x.sign(1, 0), -1);
        due("begun the other way: sign(0, 1)", x.sign(0, 1), 0);
        x = Calls.read(ALL_EIGHT);
        due("none between", x.sign(3, 4), -1);
        due("one between", x.sign(3, 5), 0);
        due("all between", x.sign(0, 7), 0);
    }

    private static void colourings() {
        Calls.about("COLOURS: ways to give each POST a number 0 .. k less 1 so that two with a LINE have unlike ones");
        ArrowOrders x = new ArrowOrders();
        for (int k = 0; k <= 9; k++) {
            due("no posts, colours(" + k + ")", x.colours(k), 1);
        }
        x = Calls.read("posts a;");
        for (int k = 0; k <= 9; k++) {
            due("one post, colours(" + k + ")", x.colours(k), k);
        }
        x = Calls.read(ALL_EIGHT);
        due("all lines, colours(0)", x.colours(0), 0);
        due("all lines, colours(7)", x.colours(7), 0);
        due("all lines, colours(8)", x.colours(8), 40320);
        due("all lines, colours(9)", x.colours(9), 362880);
        x = Calls.read(EIGHT);
        due("no lines, colours(0)", x.colours(0), 0);
        due("no lines, colours(1)", x.colours(1), 1);
        due("no lines, colours(2)", x.colours(2), 256);
        due("no lines, colours(9)", x.colours(9), 43046721);
        x = Calls.read(WAY);
        due("a way, colours(3)", x.colours(3), 24);
        due("a way, chain(3)", x.chain(3), 1);
        due("a way, colours(3) behind chain(3)", x.colours(3), 24);
        due("a way, chain(3) behind colours(3)", x.chain(3), 1);
        x = Calls.read(FIVE);
        due("five in a round, colours(2)", x.colours(2), 0);
        due("five in a round, colours(3)", x.colours(3), 30);
        due("a line, colours(1)", Calls.read("posts a b;way a b;").colours(1), 0);
    }

    private static void crossedRows() {
        Calls.about("CROSSED: if the network and the OTHER one are ORDERED: two rows of all POSTS");
        ArrowOrders x = Calls.read(WAY);
        // a, c under b; c under d; the other one: a under c, d; b under d.
        posts(x, 5, 0, 2, 1, 3);
        posts(x, 6, 1, 0, 3, 2);
        x = Calls.read(ALL_EIGHT);
        posts(x, 5, 0, 1, 2, 3, 4, 5, 6, 7);
        posts(x, 6, 7, 6, 5, 4, 3, 2, 1, 0);
        x = Calls.read(EIGHT);
        posts(x, 5, 0, 1, 2, 3, 4, 5, 6, 7);
        posts(x, 6, 0, 1, 2, 3, 4, 5, 6, 7);
        x = Calls.read("posts a;");
        posts(x, 5, 0);
        posts(x, 6, 0);
        due("network(5), no posts", new ArrowOrders().network(5), 1);
    }

    private static void crossedOtherFirst() {
        Calls.about("(both ARROWED, the OTHER one begun the first way)");
        ArrowOrders x = Calls.read("posts a b c d;way a b;way c d;");
        posts(x, 5, 0, 1, 2, 3);
        posts(x, 6, 1, 0, 3, 2);
        x.begin();
        posts(x, 5, 1, 0, 2, 3);
        posts(x, 6, 0, 1, 3, 2);
        x.other();
        // Now the network turns, and the two lines do not.
        posts(x, 5, 2, 3, 0, 1);
        posts(x, 6, 0, 1, 2, 3);
    }

    private static void alikeSets() {
        Calls.about("ALIKE: a set of POSTS, not empty, such that each other POST has LINES to all of it or to none");
        ArrowOrders x = Calls.read("posts a b c d;heap a b c;way c d;");
        int[] alike = {1, 2, 3, 4, 8, 11, 15};
        for (int set = 0; set < 16; set++) {
            due("set(" + set + ", 2)", x.set(set, 2), holds(alike, set));
        }
        due("count(2)", x.count(2), alike.length);
        due("set(0, 2), no posts", new ArrowOrders().set(0, 2), 0);
        x = Calls.read(WAY);
        due("a way: count(2)", x.count(2), 5);
        due("a way: set(15, 2)", x.set(15, 2), 1);
        due("a way: set(6, 2)", x.set(6, 2), 0);
        due("a way: set(9, 2)", x.set(9, 2), 0);
    }

    private static void rounds() {
        Calls.about("ROUND: POSTS, 4 at least, in a round, each with LINES to the next and the one ahead alone (of these)");
        due("three", Calls.read("posts a b c;heap a b c;").set(7, 3), 0);
        due("two", Calls.read("posts a b;way a b;").set(3, 3), 0);
        due("one", Calls.read("posts a;").set(1, 3), 0);
        due("none", Calls.read("posts a;").set(0, 3), 0);
        due("four", Calls.read("posts a b c d;way a b c d a;").set(15, 3), 1);
        due("four, a line across", Calls.read("posts a b c d;way a b c d a c;").set(15, 3), 0);
        due("four, a line away", Calls.read(WAY).set(15, 3), 0);
        due("four, lines to others", Calls.read("posts a b c d e;way a b c d a e b;").set(15, 3), 1);
        due("five of them", Calls.read("posts a b c d e;way a b c d a e b;").set(31, 3), 0);
        due("two threes with post 0 in both", Calls.read("posts a b c d e;way a b c a d e a;").set(31, 3), 0);
        due("two threes with post 4 in both", Calls.read("posts a b c d e;way e b c e d a e;").set(31, 3), 0);
        due("eight", Calls.read(EIGHT + "way a c e g b d f h a;").set(255, 3), 1);
        due("twice four", Calls.read(EIGHT + "way a b c d a;way e f g h e;").set(255, 3), 0);
        due("twice three", Calls.read("posts a b c d e f;heap a b c;heap d e f;").set(63, 3), 0);
        due("three and five", Calls.read(EIGHT + "heap a b c;way d e f g h d;").set(255, 3), 0);
        due("five of eight", Calls.read(EIGHT + "heap a b c;way d e f g h d;").set(248, 3), 1);
    }

    private static void noneBeforeNotOrdered() {
        Calls.about("Where NONE and -2 could both be told, it is NONE");
        ArrowOrders x = Calls.read(FIVE);
        due("of(5, 2)", x.of(5, 2), NONE);
        due("of(-1, 3)", x.of(-1, 3), NONE);
        due("of(0, 4)", x.of(0, 4), NONE);
        due("of(0, -1)", x.of(0, -1), NONE);
        due("network(8)", x.network(8), NONE);
        due("under(0, 5)", x.under(0, 5), NONE);
        due("under(5, 0)", x.under(5, 0), NONE);
        due("post(5, 0)", x.post(5, 0), NONE);
        due("post(5, 5)", x.post(5, 5), NONE);
        due("post(0, 7)", x.post(0, 7), NONE);
        due("post(0, -1)", x.post(0, -1), NONE);
        due("order(10)", x.order(10), NONE);
        due("order(-1)", x.order(-1), NONE);
        due("chain(5)", x.chain(5), NONE);
        due("chain(-1)", x.chain(-1), NONE);
        due("straight(0, 5)", x.straight(0, 5), NONE);
        due("straight(0, -1)", x.straight(0, -1), NONE);
        due("straight(-1, 0)", x.straight(-1, 0), NONE);
    }

    // ---- promises 12 to 19 ----

    private static void ofEdges() {
        Calls.about("Promise 12: (2, 3: -2: the network is not ORDERED). NONE for others");
        ArrowOrders x = Calls.read(FIVE);
        int[][] ends = {{0, 1}, {0, 4}, {1, 2}, {2, 3}, {3, 4}};
        for (int line = 0; line < ends.length; line++) {
            due("of(" + line + ", 0)", x.of(line, 0), ends[line][0]);
            due("of(" + line + ", 1)", x.of(line, 1), ends[line][1]);
            due("of(" + line + ", 2)", x.of(line, 2), NOT_ORDERED);
            due("of(" + line + ", 3)", x.of(line, 3), NOT_ORDERED);
        }
        x = Calls.read(WAY);
        lines(x, 0, 0, 1, 2);
        lines(x, 1, 1, 2, 3);
        lines(x, 2, 0, 0, 0);
        lines(x, 3, 1, 0, 1);
        for (int what = 0; what < 4; what++) {
            due("of(-1, " + what + ")", x.of(-1, what), NONE);
            due("of(3, " + what + ")", x.of(3, what), NONE);
            due("of(0, " + what + "), no lines", Calls.read(EIGHT).of(0, what), NONE);
            for (int far : FAR_OUT) {
                due("of(" + far + ", " + what + ")", x.of(far, what), NONE);
            }
        }
        due("of(0, 4)", x.of(0, 4), NONE);
        due("of(0, -1)", x.of(0, -1), NONE);
        for (int far : FAR_OUT) {
            due("of(0, " + far + ")", x.of(0, far), NONE);
        }
    }

    private static void farEdges() {
        Calls.about("Promise 13: (0: to itself); -2: there is no way; NONE: no such ones");
        ArrowOrders x = Calls.read("posts a b c d;way a b c;");
        for (int p = 0; p < 4; p++) {
            due("far(" + p + ", " + p + ")", x.far(p, p), 0);
        }
        due("far(0, 1)", x.far(0, 1), 1);
        due("far(2, 0)", x.far(2, 0), 2);
        due("far(0, 3)", x.far(0, 3), -2);
        due("far(3, 0)", x.far(3, 0), -2);
        for (int p : NO_POSTS) {
            due("far(" + p + ", 0)", x.far(p, 0), NONE);
            due("far(0, " + p + ")", x.far(0, p), NONE);
            due("far(" + p + ", " + p + ")", x.far(p, p), NONE);
        }
        due("far(0, 7), the farthest", Calls.read(EIGHT + "way a b c d e f g h;").far(0, 7), 7);
        due("far(0, 4), both ways round", Calls.read(EIGHT + "way a b c d e f g h a;").far(0, 4), 4);
        due("far(0, 5), the shorter way round", Calls.read(EIGHT + "way a b c d e f g h a;").far(0, 5), 3);
    }

    private static void nearEdges() {
        Calls.about("Promise 14: POSTS to which a POST has LINES (bits); NONE: no such one");
        ArrowOrders x = Calls.read(WAY);
        Calls.nears(x, 2, 5, 10, 4);
        for (int p : NO_POSTS) {
            due("near(" + p + ")", x.near(p), NONE);
        }
        Calls.nears(Calls.read(ALL_EIGHT), 254, 253, 251, 247, 239, 223, 191, 127);
    }

    private static void forcesNone() {
        Calls.about("Promise 15: NONE: no such ARROWS");
        ArrowOrders x = Calls.read(WAY);
        due("forces(0, 2, 0, 1)", x.forces(0, 2, 0, 1), NONE);
        due("forces(0, 1, 0, 2)", x.forces(0, 1, 0, 2), NONE);
        due("forces(1, 1, 0, 1)", x.forces(1, 1, 0, 1), NONE);
        due("forces(0, 1, 1, 1)", x.forces(0, 1, 1, 1), NONE);
        for (int p : NO_POSTS) {
            due("forces(" + p + ", 1, 2, 1)", x.forces(p, 1, 2, 1), NONE);
            due("forces(0, " + p + ", 2, 1)", x.forces(0, p, 2, 1), NONE);
            due("forces(0, 1, " + p + ", 1)", x.forces(0, 1, p, 1), NONE);
            due("forces(0, 1, 2, " + p + ")", x.forces(0, 1, 2, p), NONE);
        }
        due("forces(0, 1, 0, 1), no posts", new ArrowOrders().forces(0, 1, 0, 1), NONE);
    }

    private static void klassEdges() {
        Calls.about("Promise 16: 3 how many ARROWS its FORCED WALK has (0: none). NONE for others");
        ArrowOrders x = Calls.read(WAY);
        int[] want = {3, 0, 7, 0};
        for (int what = 0; what < 4; what++) {
            due("klass(2, 1, " + what + ")", x.klass(2, 1, what), want[what]);
            due("klass(0, 2, " + what + ")", x.klass(0, 2, what), NONE);
            due("klass(1, 1, " + what + ")", x.klass(1, 1, what), NONE);
            for (int p : NO_POSTS) {
                due("klass(" + p + ", 1, " + what + ")", x.klass(p, 1, what), NONE);
                due("klass(1, " + p + ", " + what + ")", x.klass(1, p, what), NONE);
            }
        }
        due("klass(0, 1, 4)", x.klass(0, 1, 4), NONE);
        due("klass(0, 1, -1)", x.klass(0, 1, -1), NONE);
        for (int far : FAR_OUT) {
            due("klass(0, 1, " + far + ")", x.klass(0, 1, far), NONE);
        }
        x = Calls.read(ALL_EIGHT);
        due("klass(0, 1, 2), the first line", x.klass(0, 1, 2), 1);
        due("klass(7, 6, 2), the last line", x.klass(7, 6, 2), 1 << 27);
        x = Calls.read(FIVE);
        int[] odd = {10, 1, 31, 6};
        for (int what = 0; what < 4; what++) {
            due("odd: klass(4, 0, " + what + ")", x.klass(4, 0, what), odd[what]);
        }
    }

    private static void walkEdges() {
        Calls.about("Promise 17: the i-th ARROW of the FORCED WALK: 8 times the POST it comes from, and that to which it goes; NONE: no such ones");
        ArrowOrders x = Calls.read(FIVE);
        due("walk(4, 3, 0)", x.walk(4, 3, 0), 35);
        due("walk(4, 3, 5)", x.walk(4, 3, 5), 28);
        due("walk(4, 3, 6)", x.walk(4, 3, 6), NONE);
        due("walk(4, 3, -1)", x.walk(4, 3, -1), NONE);
        for (int far : FAR_OUT) {
            due("walk(4, 3, " + far + ")", x.walk(4, 3, far), NONE);
            due("walk(" + far + ", 3, 0)", x.walk(far, 3, 0), NONE);
            due("walk(4, " + far + ", 0)", x.walk(4, far, 0), NONE);
        }
        due("walk(0, 2, 0)", x.walk(0, 2, 0), NONE);
        due("walk(0, 0, 0)", x.walk(0, 0, 0), NONE);
        due("walk(0, 5, 0)", x.walk(0, 5, 0), NONE);
        due("walk(0, 8, 0)", x.walk(0, 8, 0), NONE);
        due("walk(0, 1, 0), no posts", new ArrowOrders().walk(0, 1, 0), NONE);
        due("walk(0, 1, 0), not odd", Calls.read(WAY).walk(0, 1, 0), NONE);
    }

    private static void networkAll(String text, int... want) {
        ArrowOrders x = Calls.read(text);
        for (int what = 0; what < want.length; what++) {
            due(text + " network(" + what + ")", x.network(what), want[what]);
        }
    }

    private static void networkEdges() {
        Calls.about("Promise 18: .. 4 how many STEPS (-2: not ORDERED) .. NONE for others");
        networkAll(FIVE, 0, 1, 1, 0, NOT_ORDERED, 0, 0, 1);
        networkAll(SIX, 1, 2, 0, 2, 1, 0, 0, 1);
        networkAll(PRISM, 0, 1, 1, 0, NOT_ORDERED, 0, 1, 1);
        networkAll(WAY, 1, 2, 0, 2, 1, 1, 1, 1);
        networkAll(ALL_EIGHT, 1, 56, 0, 40320, 7, 1, 1, 1);
        networkAll(EIGHT, 1, 0, 0, 1, 0, 1, 1, 8);
        networkAll("posts a;", 1, 0, 0, 1, 0, 1, 1, 1);
        networkAll("posts a b c d e;way a b;way d e;", 1, 4, 0, 4, 2, 1, 1, 3);
        for (String text : new String[] {FIVE, WAY, "posts;"}) {
            ArrowOrders x = Calls.read(text);
            due("network(-1)", x.network(-1), NONE);
            due("network(8)", x.network(8), NONE);
            for (int far : FAR_OUT) {
                due("network(" + far + ")", x.network(far), NONE);
            }
        }
    }

    private static void networkWithoutPosts() {
        Calls.about("Promise 18: without POSTS");
        networkAll("posts;", 1, 0, 0, 1, 0, 1, 1, 0);
    }

    private static void underEdges() {
        Calls.about("Promise 19: Whether a is UNDER b (1, 0); -2: the network is not ORDERED; NONE: no such POSTS");
        ArrowOrders x = Calls.read(WAY);
        int[] above = {2, 0, 10, 0};
        for (int a = 0; a < 4; a++) {
            for (int b = 0; b < 4; b++) {
                due("under(" + a + ", " + b + ")", x.under(a, b), above[a] >> b & 1);
            }
        }
        for (int p : NO_POSTS) {
            due("under(" + p + ", 0)", x.under(p, 0), NONE);
            due("under(0, " + p + ")", x.under(0, p), NONE);
            due("under(" + p + ", " + p + ")", x.under(p, p), NONE);
        }
        x = Calls.read(FIVE);
        due("under(0, 1), not ordered", x.under(0, 1), NOT_ORDERED);
        due("under(0, 2), no line", x.under(0, 2), NOT_ORDERED);
        due("under(0, 0), itself", x.under(0, 0), NOT_ORDERED);
    }

    // ---- promises 20 to 26 ----

    private static void postEdges() {
        Calls.about("Promise 20: -2: the network is not ORDERED. NONE for others");
        ArrowOrders x = Calls.read(WAY);
        for (int what = 0; what < 7; what++) {
            for (int p : NO_POSTS) {
                due("post(" + p + ", " + what + ")", x.post(p, what), NONE);
            }
            due("post(0, " + what + "), no posts", new ArrowOrders().post(0, what), NONE);
        }
        for (int p = 0; p < 4; p++) {
            due("post(" + p + ", 7)", x.post(p, 7), NONE);
            due("post(" + p + ", -1)", x.post(p, -1), NONE);
            for (int far : FAR_OUT) {
                due("post(" + p + ", " + far + ")", x.post(p, far), NONE);
            }
        }
        for (int what = 0; what < 7; what++) {
            due("post(4, " + what + "), not ordered", Calls.read(FIVE).post(4, what), NOT_ORDERED);
        }
        x = Calls.read("posts a;");
        for (int what = 0; what < 7; what++) {
            due("post(0, " + what + "), one post", x.post(0, what), 0);
        }
    }

    private static void postNotCrossed() {
        Calls.about("Promise 20: (5, 6: -2: not CROSSED)");
        ArrowOrders x = Calls.read(SIX);
        for (int p = 0; p < 6; p++) {
            due("post(" + p + ", 5)", x.post(p, 5), NOT_ORDERED);
            due("post(" + p + ", 6)", x.post(p, 6), NOT_ORDERED);
        }
        posts(x, 0, 0, 1, 0, 1, 0, 1);
        posts(x, 4, 0, 2, 1, 4, 3, 5);
        x.other();
        for (int what = 0; what < 7; what++) {
            due("post(0, " + what + "), not ordered", x.post(0, what), NOT_ORDERED);
        }
    }

    private static void orderEdges() {
        Calls.about("Promise 21: -2: not ORDERED. NONE for others");
        ArrowOrders x = Calls.read(FIVE);
        for (int what = 0; what < 10; what++) {
            due("order(" + what + ")", x.order(what), NOT_ORDERED);
        }
        for (String text : new String[] {FIVE, WAY, "posts;"}) {
            x = Calls.read(text);
            due("order(10)", x.order(10), NONE);
            due("order(-1)", x.order(-1), NONE);
            for (int far : FAR_OUT) {
                due("order(" + far + ")", x.order(far), NONE);
            }
        }
    }

    private static void orderAll(String text, int... want) {
        ArrowOrders x = Calls.read(text);
        for (int what = 0; what < want.length; what++) {
            due(text + " order(" + what + ")", x.order(what), want[what]);
        }
    }

    private static void orderWithoutPosts() {
        Calls.about("Promise 21: 7 the greatest LEVEL (NONE without POSTS)");
        orderAll("posts;", 1, 0, 0, 0, 0, 0, 0, NONE, 1, 0);
        orderAll("posts a;", 1, 0, 1, 1, 1, 1, 1, 0, 2, 0);
        orderAll(EIGHT, 40320, 0, 1, 1, 8, 255, 8, 0, 256, 7);
        orderAll(ALL_EIGHT, 1, 7, 8, 255, 1, 1, 1, 7, 9, 0);
        orderAll(SIX, 48, 6, 2, 3, 3, 21, 3, 1, 18, 3);
    }

    private static void orderFirstSuch() {
        Calls.about("Promise 21: 3, 5 the first such (the least bits)");
        ArrowOrders x = Calls.read("posts a b c d;way a d;way b c;");
        due("order(3), 6 before 9", x.order(3), 6);
        due("order(5), 3 before 12", x.order(5), 3);
        x = Calls.read("posts a b c d e;way a e;heap b c d;");
        due("order(3), the most before the least", x.order(3), 14);
        x = Calls.read("posts a b c d e f;heap a b f;heap c d e;");
        due("order(3), 28 before 35", x.order(3), 28);
        x.other();
        due("order(5), 28 before 35", x.order(5), 28);
    }

    private static void chainEdges() {
        Calls.about("Promise 22: (each POST, by numbers, with the least number, 0 on, by which all can still be taken); -2: not ORDERED; NONE: no such one");
        ArrowOrders x = Calls.read(WAY);
        chains(x, 0, 0, 1, 1);
        for (int p : NO_POSTS) {
            due("chain(" + p + ")", x.chain(p), NONE);
        }
        chains(Calls.read(EIGHT), 0, 1, 2, 3, 4, 5, 6, 7);
        chains(Calls.read(ALL_EIGHT), 0, 0, 0, 0, 0, 0, 0, 0);
        chains(Calls.read("posts a b c d e f;way d a b c e;way b f;"), 0, 1, 2, 0, 2, 1);
        chains(Calls.read("posts a b c;way a c;"), 0, 1, 0);
        chains(Calls.read("posts a;"), 0);
        due("chain(0), no posts", new ArrowOrders().chain(0), NONE);
        x = Calls.read(FIVE);
        for (int p = 0; p < 5; p++) {
            due("chain(" + p + "), not ordered", x.chain(p), NOT_ORDERED);
        }
    }

    private static void chains(ArrowOrders x, int... want) {
        for (int p = 0; p < want.length; p++) {
            due("chain(" + p + ")", x.chain(p), want[p]);
        }
        due("chain(" + want.length + ")", x.chain(want.length), NONE);
    }

    private static void straightEdges() {
        Calls.about("Promise 23: -2: not ORDERED; NONE: no such ones");
        ArrowOrders x = Calls.read(WAY);
        due("order(0)", x.order(0), 5);
        row("the last", x, 4, 2, 3, 0, 1);
        row("behind it", x, 5, NONE, NONE, NONE, NONE);
        row("ahead of the first", x, -1, NONE, NONE, NONE, NONE);
        for (int p : NO_POSTS) {
            due("straight(0, " + p + ")", x.straight(0, p), NONE);
        }
        for (int far : FAR_OUT) {
            due("straight(" + far + ", 0)", x.straight(far, 0), NONE);
        }
        due("straight(0, 0), no posts", new ArrowOrders().straight(0, 0), NONE);
        due("straight(0, 0), one post", Calls.read("posts a;").straight(0, 0), 0);
        due("straight(1, 0), one post", Calls.read("posts a;").straight(1, 0), NONE);
        x = Calls.read(FIVE);
        row("not ordered", x, 0, NOT_ORDERED, NOT_ORDERED, NOT_ORDERED, NOT_ORDERED, NOT_ORDERED, NONE);
        due("straight(least, 0), not ordered", x.straight(Integer.MIN_VALUE, 0), NONE);
    }

    private static void signEdges() {
        Calls.about("Promise 24: (0: a is not UNDER b, nor b); -100000: not ORDERED, no such POSTS");
        ArrowOrders x = Calls.read(WAY);
        due("sign(0, 1)", x.sign(0, 1), -1);
        due("sign(1, 0)", x.sign(1, 0), 0);
        due("sign(0, 2)", x.sign(0, 2), 0);
        due("sign(3, 3)", x.sign(3, 3), 1);
        for (int p : NO_POSTS) {
            due("sign(" + p + ", 0)", x.sign(p, 0), -100000);
            due("sign(0, " + p + ")", x.sign(0, p), -100000);
            due("sign(" + p + ", " + p + ")", x.sign(p, p), -100000);
        }
        due("sign(0, 0), no posts", new ArrowOrders().sign(0, 0), -100000);
        x = Calls.read(FIVE);
        due("sign(0, 1), not ordered", x.sign(0, 1), -100000);
        due("sign(0, 0), not ordered", x.sign(0, 0), -100000);
        due("sign(0, 5), not ordered", x.sign(0, 5), -100000);
    }

    private static void coloursEdges() {
        Calls.about("Promise 25: COLOURS by k (0 .. 9); NONE: no such k");
        for (String text : new String[] {FIVE, WAY, "posts;", ALL_EIGHT}) {
            ArrowOrders x = Calls.read(text);
            due("colours(-1)", x.colours(-1), NONE);
            due("colours(10)", x.colours(10), NONE);
            for (int far : FAR_OUT) {
                due("colours(" + far + ")", x.colours(far), NONE);
            }
        }
        due("colours(9)", Calls.read(WAY).colours(9), 9 * 8 * 8 * 8);
        due("colours(0)", Calls.read(WAY).colours(0), 0);
    }

    private static void setEdges() {
        Calls.about("Promise 26: NONE for others, no such set");
        ArrowOrders x = Calls.read(WAY);
        int[] none = {1, 1, 0, 0};
        int[] all = {0, 0, 1, 0};
        for (int what = 0; what < 4; what++) {
            due("set(0, " + what + ")", x.set(0, what), none[what]);
            due("set(15, " + what + ")", x.set(15, what), all[what]);
            due("set(16, " + what + ")", x.set(16, what), NONE);
            due("set(-1, " + what + ")", x.set(-1, what), NONE);
            due("set(0, " + what + "), no posts", new ArrowOrders().set(0, what), none[what]);
            due("set(1, " + what + "), no posts", new ArrowOrders().set(1, what), NONE);
            due("set(256, " + what + "), eight", Calls.read(EIGHT).set(256, what), NONE);
            for (int far : FAR_OUT) {
                due("set(" + far + ", " + what + ")", x.set(far, what), NONE);
            }
        }
        due("set(255, 1), eight", Calls.read(EIGHT).set(255, 1), 1);
        due("set(0, 4)", x.set(0, 4), NONE);
        due("set(0, -1)", x.set(0, -1), NONE);
        due("set(16, 4)", x.set(16, 4), NONE);
        for (int far : FAR_OUT) {
            due("set(1, " + far + ")", x.set(1, far), NONE);
        }
    }
}
