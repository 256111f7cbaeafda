/** Each promise of the document by itself: answers worked out by hand. */
public final class PromiseTests {
    private static final int NONE = ArrowOrders.NONE;
    private static final String FIVE_ROUND = "posts a b c d e;way a b c d e a;";
    private static final String DIAMOND = "posts a b c d;heap a b d;heap a c d;";

    private PromiseTests() {
    }

    public static void main(String[] args) {
        newObject();
        feed();
        back();
        readTexts();
        readSyntax();
        readRoom();
        readSense();
        readChanges();
        place();
        line();
        other();
        exchange();
        bare();
        begin();
        undo();
        of();
        far();
        near();
        forces();
        klassAndWalk();
        network();
        under();
        post();
        order();
        chain();
        straight();
        sign();
        colours();
        set();
        like();
        hold();
        restore();
        count();
        Calls.close();
    }

    private static void due(String call, long got, long want) {
        Calls.due(call, got, want);
    }

    private static void due(String call, boolean got, boolean want) {
        Calls.due(call, got, want);
    }

    private static void nears(String about, ArrowOrders x, int... want) {
        due(about + " has posts", x.count(0), want.length);
        for (int p = 0; p < want.length; p++) {
            due(about + " near(" + p + ")", x.near(p), want[p]);
        }
    }

    // Promise 1
    private static void newObject() {
        ArrowOrders x = new ArrowOrders();
        for (int what = 0; what <= 10; what++) {
            due("1: count(" + what + ")", x.count(what), what == 6 ? 1 : 0);
        }
        due("1: place()", x.place(), NONE);
        due("1: undo()", x.undo(), false);
        due("1: near(0)", x.near(0), NONE);
        due("1: NONE", NONE, -1);
    }

    // Promise 2
    private static void feed() {
        ArrowOrders x = new ArrowOrders();
        int posts = 0x706F7374;
        due("2: the highest byte comes first", x.feed(posts, 0x73206100, 0, 0, 0), 20);
        x.back(13);
        x.feed(0x3B202020, 0x20202020, 0x20202020, 0x20202020, 0x20202020);
        due("2: read()", x.read(), 0);
        due("2: count(0)", x.count(0), 1);
        for (int i = 1; i <= 100; i++) {
            due("2: feed " + i, x.feed(-1, -1, -1, -1, -1), 20 * i);
        }
        due("2: past 2,000", x.feed(1, 2, 3, 4, 5), NONE);
        due("2: nothing came", x.count(8), 2000);
        x.back(19);
        due("2: past 2,000 by one", x.feed(1, 2, 3, 4, 5), NONE);
        due("2: nothing came then", x.count(8), 1981);
        x.back(1);
        due("2: just 2,000", x.feed(1, 2, 3, 4, 5), 2000);
        due("2: read() of no text", x.read(), 1);
        due("2: place() of a byte 255", x.place(), 0);
    }

    // Promise 3
    private static void back() {
        ArrowOrders x = new ArrowOrders();
        due("3: none to take", x.back(1), NONE);
        due("3: back(0)", x.back(0), 0);
        Calls.tell(x, "posts a b;way a b;");
        due("3: below 0", x.back(-1), NONE);
        due("3: too many", x.back(19), NONE);
        due("3: least int", x.back(Integer.MIN_VALUE), NONE);
        due("3: nothing went", x.count(8), 18);
        due("3: the last go", x.back(8), 10);
        due("3: read()", x.read(), 0);
        due("3: lines", x.count(1), 0);
        Calls.tell(x, "posts;");
        due("3: all go", x.back(6), 0);
    }

    // Promise 4
    private static void readTexts() {
        nears("4: way", Calls.read("posts a b c d;way a c d;"), 4, 0, 9, 4);
        nears("4: heap", Calls.read("posts a b c d;heap d b a;"), 10, 9, 0, 3);
        nears("4: cross", Calls.read("posts a b c d;cross 2 0 3 1;"), 10, 1, 8, 5);
        nears("4: with itself", Calls.read("posts a b;way a a b a;heap b b;"), 2, 1);
        nears("4: more tellings", Calls.read("posts a b c;way a b;cross 0 2 1;"), 2, 5, 2);
        nears("4: no posts", Calls.read("posts;"));
        nears("4: blanks or not", Calls.read("\n\tposts\r a\n;way a a;cross0;  "), 0);
        nears("4: names of 8", Calls.read("posts abcdefgh abcdefgi postsway;way abcdefgi abcdefgh;"), 2, 1, 0);
        nears("4: almost the words", Calls.read("posts hosts posta day wax leap hear gross crosz;way hosts crosz;"), 128, 0, 0, 0, 0, 0, 0, 1);
        nears("4: the last letters", Calls.read("posts z zz az za;way z za;heap az zz;"), 8, 4, 2, 1);
        nears("4: ints of 4", Calls.read("posts a b;cross 0001 0000;"), 2, 1);
        nears("4: 8 posts", Calls.read("posts a b c d e f g h;way h a;"), 128, 0, 0, 0, 0, 0, 0, 1);
        nears("4: 400 tokens", Calls.read("posts a b;way" + " a b".repeat(197) + ";"), 2, 1);
        ArrowOrders x = Calls.read("posts a b c;way c b a;");
        due("4: lines by their lesser post", x.of(0, 0), 0);
        due("4: and by their greater one", x.of(1, 1), 2);
    }

    private static void readSyntax() {
        Calls.fault("", 1, 0);
        Calls.fault("  ", 1, 2);
        Calls.fault("posts", 1, 5);
        Calls.fault("posts a  ", 1, 9);
        Calls.fault("way a b;", 1, 0);
        Calls.fault("postsa;", 1, 0);
        Calls.fault("posts a;way a;", 1, 13);
        Calls.fault("posts a;way;", 1, 11);
        Calls.fault("posts a;heap a;", 1, 14);
        Calls.fault("posts a;heap a a", 1, 16);
        Calls.fault("posts a b;cross;", 1, 15);
        Calls.fault("posts a b;cross 0 a;", 1, 18);
        Calls.fault("posts a b;way a b 1;", 1, 18);
        Calls.fault("posts way;", 1, 6);
        Calls.fault("posts a;way a heap;", 1, 14);
        Calls.fault("posts a 1;", 1, 8);
        Calls.fault("posts abcdefghi;", 1, 6);
        Calls.fault("posts a;cross 00000;", 1, 14);
        Calls.fault("posts a;posts b;", 1, 8);
        Calls.fault("posts a;;", 1, 8);
        Calls.fault("posts a;a", 1, 8);
        Calls.fault("posts A;", 1, 6);
        Calls.fault("posts a,b;", 1, 7);
        Calls.fault("posts \u00e1;", 1, 6);
        Calls.fault("posts a\u000b;", 1, 7);
        Calls.fault("posts a\u0000;", 1, 7);
        Calls.fault("posts a a;way", 1, 13);
    }

    private static void readRoom() {
        Calls.fault("posts a b c d e f g h i;", 2, 22);
        Calls.fault("posts a b c d e f g h i -", 2, 22);
        Calls.fault("posts a b c d e f g h 9;", 1, 22);
        Calls.fault("posts a a b c d e f g h;", 2, 22);
        String names = "posts a b;way" + " a b".repeat(197);
        Calls.fault(names + " a;", 2, 803);
        Calls.fault(names + " a -", 1, 804);
        Calls.fault(names + " a", 1, 803);
        Calls.fault(names + ";way", 2, 802);
        Calls.fault(names + ";b", 1, 802);
        Calls.fault("posts a b;way q" + " a".repeat(400), 2, 14 + 2 * 395);
    }

    private static void readSense() {
        Calls.fault("posts a b a;way q b;", 3, 10);
        Calls.fault("posts a b;cross 1 1;", 3, 18);
        Calls.fault("posts a b;cross 1 01;", 3, 18);
        Calls.fault("posts a b;cross 1 0 1;", 3, 20);
        Calls.fault("posts a b;way a c;", 4, 16);
        Calls.fault("posts a b;heap c c;", 4, 15);
        Calls.fault("posts;way a a;", 4, 10);
        Calls.fault("posts a b;cross 0 2;", 5, 18);
        Calls.fault("posts a b;cross 9999;", 5, 16);
        Calls.fault("posts;cross 0;", 5, 12);
        Calls.fault("posts a b;cross 0;", 6, 17);
        Calls.fault("posts a b;cross 0 ;way c a;", 6, 18);
        Calls.fault("posts a b;way a c;cross 5;", 4, 16);
        Calls.fault("posts a b;cross 0 1;cross 1;", 6, 27);
    }

    private static void readChanges() {
        ArrowOrders x = Calls.read("posts a b c;way a b c;");
        x.line(0, 2);
        x.begin();
        x.hold(0);
        Calls.tell(x, "posts a b;way a q;");
        due("4: a fault", x.read(), 4);
        nears("4: changes nothing", x, 6, 5, 3);
        due("4: but the tape", x.count(8), 0);
        due("4: keeps what is held", x.count(10), 1);
        due("4: keeps what can be undone", x.count(9), 2);
        due("4: keeps how it begins", x.count(7), 1);
        Calls.tell(x, "posts a b;");
        due("4: a good one", x.read(), 0);
        nears("4: is in place of it", x, 0, 0);
        due("4: nothing can be undone", x.count(9), 0);
        due("4: undo()", x.undo(), false);
        due("4: slots hold nothing", x.count(10), 0);
        due("4: like(0)", x.like(0), NONE);
        due("4: begins the first way", x.count(7), 0);
        due("4: the tape is empty", x.count(8), 0);
    }

    // Promise 5
    private static void place() {
        ArrowOrders x = new ArrowOrders();
        due("5: without", x.place(), NONE);
        Calls.tell(x, "posts a;b");
        due("5: not read yet", x.place(), NONE);
        due("5: read()", x.read(), 1);
        due("5: at it", x.place(), 8);
        x.begin();
        x.hold(1);
        x.restore(1);
        due("5: as it was", x.place(), 8);
        Calls.tell(x, "posts a a;");
        due("5: read()", x.read(), 3);
        due("5: of the latest", x.place(), 8);
        Calls.tell(x, "posts a;");
        due("5: read()", x.read(), 0);
        due("5: none again", x.place(), NONE);
    }

    // Promise 6
    private static void line() {
        ArrowOrders x = Calls.read("posts a b c;way a b;");
        due("6: comes", x.line(2, 0), true);
        nears("6: come", x, 6, 1, 1);
        due("6: goes", x.line(1, 0), true);
        nears("6: gone", x, 4, 0, 1);
        due("6: with itself", x.line(1, 1), false);
        due("6: no post", x.line(0, 3), false);
        due("6: below", x.line(-1, 0), false);
        nears("6: nothing happened", x, 4, 0, 1);
        due("6: things done", x.count(9), 2);
    }

    // Promise 7
    private static void other() {
        ArrowOrders x = Calls.read("posts a b c d;way a b c d;");
        due("7: other()", x.other(), 3);
        nears("7: turned", x, 12, 8, 1, 3);
        x.line(0, 1);
        due("7: back", x.other(), 2);
        nears("7: turned back", x, 0, 4, 10, 4);
        due("7: one post", Calls.read("posts a;").other(), 0);
        x = Calls.read("posts a b;");
        x.begin();
        due("7: a line", x.other(), 1);
        due("7: begins as before", x.count(7), 1);
        due("7: things done", x.count(9), 2);
    }

    // Promise 8
    private static void exchange() {
        ArrowOrders x = Calls.read("posts a b c d;way a b c;");
        due("8: with a line between", x.exchange(0, 1), true);
        nears("8: exchanged", x, 6, 1, 1, 0);
        due("8: without", x.exchange(0, 3), true);
        nears("8: exchanged then", x, 0, 8, 8, 6);
        due("8: alike posts", x.exchange(1, 2), true);
        nears("8: as it was", x, 0, 8, 8, 6);
        due("8: things done", x.count(9), 3);
        due("8: one post", x.exchange(2, 2), false);
        due("8: no post", x.exchange(4, 0), false);
        due("8: below", x.exchange(0, -1), false);
        due("8: nothing happened", x.count(9), 3);
    }

    // Promise 9
    private static void bare() {
        ArrowOrders x = Calls.read("posts a b c;heap a b c;");
        due("9: two", x.bare(1), 2);
        nears("9: gone", x, 4, 0, 1);
        due("9: none", x.bare(1), 0);
        due("9: no thing done", x.count(9), 1);
        due("9: no post", x.bare(3), NONE);
        due("9: below", x.bare(-1), NONE);
    }

    // Promise 10
    private static void begin() {
        ArrowOrders x = Calls.read("posts a b c d;way a b;way c d;");
        due("10: the other way", x.begin(), true);
        due("10: the first line turns", x.of(0, 3), 0);
        due("10: the second does not", x.of(1, 3), 1);
        due("10: no more so", x.begin(), false);
        due("10: first line as told", x.of(0, 3), 1);
        due("10: things done", x.count(9), 2);
    }

    // Promise 11
    private static void undo() {
        ArrowOrders x = Calls.read("posts a b c;way a b;");
        x.line(1, 2);
        x.other();
        x.exchange(0, 1);
        x.bare(2);
        x.begin();
        due("11: begin()", x.undo(), true);
        due("11: begins the first way", x.count(7), 0);
        nears("11: with bare()", x, 0, 0, 0);
        due("11: bare()", x.undo(), true);
        nears("11: with exchange()", x, 0, 4, 2);
        due("11: exchange()", x.undo(), true);
        nears("11: with other()", x, 4, 0, 1);
        due("11: other()", x.undo(), true);
        nears("11: with line()", x, 2, 5, 2);
        due("11: line()", x.undo(), true);
        nears("11: as read", x, 2, 1, 0);
        due("11: there is none", x.undo(), false);
        for (int i = 0; i < 41; i++) {
            x.begin();
        }
        x.line(0, 1);
        due("11: the last 40", x.count(9), 40);
        for (int i = 0; i < 40; i++) {
            due("11: undo " + i, x.undo(), true);
        }
        due("11: no more", x.undo(), false);
        due("11: two begin() stay", x.count(7), 0);
        nears("11: the line is back", x, 2, 1, 0);
        x.line(0, 1);
        due("11: things done anew", x.count(9), 1);
        due("11: undone anew", x.undo(), true);
        nears("11: back again", x, 2, 1, 0);
        due("11: level, asked", x.post(1, 0), 1);
        x.bare(0);
        due("11: level, bare", x.post(1, 0), 0);
        x.undo();
        due("11: level, undone", x.post(1, 0), 1);
    }

    // Promise 12
    private static void of() {
        ArrowOrders x = Calls.read(DIAMOND);
        int[][] want = {{0, 1, 0, 1}, {0, 2, 0, 1}, {0, 3, 1, 1}, {1, 3, 1, 1}, {2, 3, 1, 1}};
        ofAll("12: ", x, want);
        x.begin();
        int[][] turned = {{0, 1, 0, 0}, {0, 2, 0, 0}, {0, 3, 1, 1}, {1, 3, 1, 1}, {2, 3, 1, 1}};
        ofAll("12: begun the other way, ", x, turned);
        due("12: no line", x.of(5, 0), NONE);
        due("12: below", x.of(-1, 0), NONE);
        due("12: what 4", x.of(0, 4), NONE);
        due("12: what -1", x.of(0, -1), NONE);
        x = Calls.read(FIVE_ROUND);
        due("12: lesser without order", x.of(4, 0), 3);
        due("12: greater without order", x.of(4, 1), 4);
        due("12: step without order", x.of(4, 2), -2);
        due("12: arrow without order", x.of(4, 3), -2);
        due("12: no line without order", x.of(5, 2), NONE);
        due("12: no such what without order", x.of(0, 4), NONE);
    }

    private static void ofAll(String about, ArrowOrders x, int[][] want) {
        for (int line = 0; line < want.length; line++) {
            for (int what = 0; what < 4; what++) {
                due(about + "of(" + line + ", " + what + ")", x.of(line, what), want[line][what]);
            }
        }
    }

    // Promise 13
    private static void far() {
        ArrowOrders x = Calls.read("posts a b c d e f g h;way a c e g h;way b d;");
        due("13: itself", x.far(3, 3), 0);
        due("13: next", x.far(2, 0), 1);
        due("13: far", x.far(0, 7), 4);
        due("13: back", x.far(7, 0), 4);
        due("13: no way", x.far(0, 1), -2);
        due("13: no post", x.far(0, 8), NONE);
        due("13: no posts", x.far(-1, -1), NONE);
        x.line(0, 6);
        due("13: a shorter way", x.far(0, 7), 2);
        due("13: the longest", Calls.read("posts a b c d e f g h;way a b c d e f g h;").far(0, 7), 7);
    }

    // Promise 14
    private static void near() {
        ArrowOrders x = Calls.read("posts a b c d;way a d c;");
        nears("14:", x, 8, 0, 8, 5);
        due("14: no post", x.near(4), NONE);
        due("14: below", x.near(-1), NONE);
    }

    // Promise 15
    private static void forces() {
        ArrowOrders x = Calls.read("posts a b c d;way a b c;way a d;way b d;");
        due("15: away, no line between the ends", x.forces(1, 0, 1, 2), 1);
        due("15: toward", x.forces(0, 1, 2, 1), 1);
        due("15: a line between the ends", x.forces(1, 0, 1, 3), 0);
        due("15: a line between the starts", x.forces(0, 1, 3, 1), 0);
        due("15: one behind the other", x.forces(0, 1, 1, 2), 0);
        due("15: itself", x.forces(0, 1, 0, 1), 0);
        due("15: against it", x.forces(0, 1, 1, 0), 0);
        due("15: first is none", x.forces(0, 2, 0, 1), NONE);
        due("15: second is none", x.forces(0, 1, 2, 0), NONE);
        due("15: a post and itself", x.forces(0, 0, 0, 1), NONE);
        due("15: no posts", x.forces(0, 1, 4, 0), NONE);
        due("15: below", x.forces(-1, 1, 0, 1), NONE);
    }

    // Promises 16, 17
    private static void klassAndWalk() {
        ArrowOrders x = Calls.read(FIVE_ROUND);
        due("16: arrows", x.klass(0, 1, 0), 10);
        due("16: odd", x.klass(0, 1, 1), 1);
        due("16: lines", x.klass(0, 1, 2), 31);
        due("16: walk's length", x.klass(0, 1, 3), 6);
        int[] walk = {1, 4, 28, 26, 10, 8};
        for (int i = 0; i < walk.length; i++) {
            due("17: walk(0, 1, " + i + ")", x.walk(0, 1, i), walk[i]);
        }
        due("17: behind its end", x.walk(0, 1, 6), NONE);
        due("17: below", x.walk(0, 1, -1), NONE);
        due("17: no line", x.walk(0, 2, 0), NONE);
        due("17: no post", x.walk(0, 5, 0), NONE);
        due("16: no line", x.klass(0, 2, 0), NONE);
        due("16: no post", x.klass(-1, 0, 0), NONE);
        due("16: what 4", x.klass(0, 1, 4), NONE);
        due("16: what -1", x.klass(0, 1, -1), NONE);
        x = Calls.read(DIAMOND);
        due("16: two arrows", x.klass(2, 0, 0), 2);
        due("16: not odd", x.klass(2, 0, 1), 0);
        due("16: their lines", x.klass(2, 0, 2), 3);
        due("16: no walk", x.klass(2, 0, 3), 0);
        due("16: among all lines", x.klass(0, 3, 0), 1);
        due("16: the last line", x.klass(3, 2, 2), 24);
        due("17: none", x.walk(2, 0, 0), NONE);
        x = Calls.read("posts a b c d e f g;way a b c d e a;way f g;");
        due("16: an odd class ..", x.klass(0, 1, 1), 1);
        due("16: .. and one that is not", x.klass(5, 6, 1), 0);
        due("16: has no walk", x.klass(5, 6, 3), 0);
    }

    // Promise 18
    private static void network() {
        networkAll("five in a round", FIVE_ROUND, 0, 1, 1, 0, -2, 0, 0, 1);
        networkAll("six in a round", "posts a b c d e f;way a b c d e f a;", 1, 2, 0, 2, 1, 0, 0, 1);
        networkAll("its other one", "posts a b c d e f;heap a c e;heap b d f;way a d;way b e;way c f;", 0, 1, 1, 0, -2, 0, 1, 1);
        networkAll("diamond", DIAMOND, 1, 6, 0, 6, 2, 1, 1, 1);
        networkAll("four all joined", "posts a b c d;heap a b c d;", 1, 12, 0, 24, 3, 1, 1, 1);
        networkAll("three parts", "posts a b c d e;way a b;way c d;", 1, 4, 0, 4, 2, 1, 1, 3);
        networkAll("no lines", "posts a b;", 1, 0, 0, 1, 0, 1, 1, 2);
        ArrowOrders x = Calls.read("posts a b c d e f g h;heap a b c d e f g h;");
        due("18: most ways", x.network(3), 40320);
        due("18: most classes", x.network(1), 56);
        due("18: most steps", x.network(4), 7);
    }

    private static void networkAll(String about, String text, int... want) {
        ArrowOrders x = Calls.read(text);
        for (int what = 0; what < want.length; what++) {
            due("18: " + about + ": network(" + what + ")", x.network(what), want[what]);
        }
        due("18: what 8", x.network(8), NONE);
        due("18: what -1", x.network(-1), NONE);
    }

    // Promise 19
    private static void under() {
        ArrowOrders x = Calls.read(DIAMOND);
        due("19: under", x.under(0, 3), 1);
        due("19: over", x.under(3, 0), 0);
        due("19: no line", x.under(1, 2), 0);
        due("19: itself", x.under(1, 1), 0);
        due("19: no post", x.under(0, 4), NONE);
        due("19: below", x.under(-1, 0), NONE);
        x.begin();
        due("19: begun the other way", x.under(0, 1), 0);
        due("19: begun the other way, against", x.under(1, 0), 1);
        x = Calls.read(FIVE_ROUND);
        due("19: not ordered", x.under(0, 1), -2);
        due("19: not ordered, no post", x.under(0, 5), NONE);
    }

    // Promise 20
    private static void post() {
        int[][] want = {
            {0, 0, 14, 6, 0, 0, 3}, {1, 1, 8, 8, 1, 1, 1}, {1, 1, 8, 8, 2, 2, 2}, {2, 7, 0, 0, 3, 3, 0}
        };
        ArrowOrders x = Calls.read(DIAMOND);
        postAll("20: ", x, want);
        x.begin();
        int[][] turned = {
            {1, 6, 8, 8, 2, 2, 1}, {0, 0, 9, 1, 0, 0, 2}, {0, 0, 9, 1, 1, 1, 3}, {2, 7, 0, 0, 3, 3, 0}
        };
        postAll("20: begun the other way, ", x, turned);
        due("20: no post", x.post(4, 0), NONE);
        due("20: below", x.post(-1, 0), NONE);
        due("20: what 7", x.post(0, 7), NONE);
        due("20: what -1", x.post(0, -1), NONE);
        x = Calls.read("posts a b c d e f;way a b c d e f a;");
        due("20: level", x.post(1, 0), 1);
        due("20: not crossed, first row", x.post(0, 5), -2);
        due("20: not crossed, second row", x.post(0, 6), -2);
        x = Calls.read(FIVE_ROUND);
        due("20: not ordered", x.post(0, 0), -2);
        due("20: not ordered, rows", x.post(0, 6), -2);
        due("20: not ordered, no post", x.post(5, 0), NONE);
        due("20: not ordered, what 7", x.post(0, 7), NONE);
    }

    private static void postAll(String about, ArrowOrders x, int[][] want) {
        for (int p = 0; p < want.length; p++) {
            for (int what = 0; what < want[p].length; what++) {
                due(about + "post(" + p + ", " + what + ")", x.post(p, what), want[p][what]);
            }
        }
    }

    // Promise 21
    private static void order() {
        orderAll("diamond", DIAMOND, 2, 4, 3, 11, 2, 6, 2, 2, 6, 1);
        orderAll("two lines", "posts a b c d;way a c;way b d;", 6, 2, 2, 5, 2, 3, 2, 1, 9, 1);
        orderAll("no lines", "posts a b c;", 6, 0, 1, 1, 3, 7, 3, 0, 8, 2);
        orderAll("a row", "posts a b c d;heap a b c d;", 1, 3, 4, 15, 1, 1, 1, 3, 5, 0);
        orderAll("no posts", "posts;", 1, 0, 0, 0, 0, 0, 0, NONE, 1, 0);
        ArrowOrders x = Calls.read(FIVE_ROUND);
        due("21: not ordered", x.order(2), -2);
        due("21: not ordered, what 10", x.order(10), NONE);
        x = Calls.read("posts a b c d e f g h;");
        due("21: most straight ones", x.order(0), 40320);
        due("21: most down", x.order(8), 256);
        due("21: most jumps", x.order(9), 7);
    }

    private static void orderAll(String about, String text, int... want) {
        ArrowOrders x = Calls.read(text);
        for (int what = 0; what < want.length; what++) {
            due("21: " + about + ": order(" + what + ")", x.order(what), want[what]);
        }
        due("21: what 10", x.order(10), NONE);
        due("21: what -1", x.order(-1), NONE);
    }

    // Promise 22
    private static void chain() {
        chainAll("diamond", DIAMOND, 0, 0, 1, 0);
        // With posts 0 and 1 in one chain, 2 and 3 would need one each: three in all.
        chainAll("a way", "posts a b c d;way c a b d;", 0, 1, 0, 1);
        chainAll("no lines", "posts a b c;", 0, 1, 2);
        chainAll("a row", "posts a b c;heap a b c;", 0, 0, 0);
        ArrowOrders x = Calls.read(FIVE_ROUND);
        due("22: not ordered", x.chain(0), -2);
        due("22: not ordered, no post", x.chain(5), NONE);
    }

    private static void chainAll(String about, String text, int... want) {
        ArrowOrders x = Calls.read(text);
        for (int p = 0; p < want.length; p++) {
            due("22: " + about + ": chain(" + p + ")", x.chain(p), want[p]);
        }
        due("22: no post", x.chain(want.length), NONE);
        due("22: below", x.chain(-1), NONE);
    }

    // Promise 23
    private static void straight() {
        ArrowOrders x = Calls.read("posts a b c d;way a c;way b d;");
        String[] rows = {"0123", "0132", "0213", "1023", "1032", "1302"};
        for (int i = 0; i < rows.length; i++) {
            for (int k = 0; k < 4; k++) {
                due("23: straight(" + i + ", " + k + ")", x.straight(i, k), rows[i].charAt(k) - '0');
            }
        }
        due("23: no such order", x.straight(6, 0), NONE);
        due("23: order below", x.straight(-1, 0), NONE);
        due("23: no such post", x.straight(0, 4), NONE);
        due("23: post below", x.straight(0, -1), NONE);
        x = Calls.read(FIVE_ROUND);
        due("23: not ordered", x.straight(0, 0), -2);
        due("23: not ordered, no such post", x.straight(0, 5), NONE);
        due("23: not ordered, order below", x.straight(-1, 0), NONE);
    }

    // Promise 24
    private static void sign() {
        ArrowOrders x = Calls.read(DIAMOND);
        due("24: itself", x.sign(2, 2), 1);
        due("24: the next", x.sign(0, 1), -1);
        due("24: over two", x.sign(0, 3), 1);
        due("24: over it", x.sign(3, 0), 0);
        due("24: no line", x.sign(1, 2), 0);
        due("24: no post", x.sign(0, 4), -100000);
        due("24: below", x.sign(-1, 0), -100000);
        x.begin();
        due("24: over one", x.sign(1, 3), 0);
        due("24: over three", Calls.read("posts a b c d e;heap a b e;heap a c e;heap a d e;").sign(0, 4), 2);
        due("24: not ordered", Calls.read(FIVE_ROUND).sign(0, 0), -100000);
    }

    // Promise 25
    private static void colours() {
        int[] diamond = {0, 0, 0, 6, 48, 180};
        for (int k = 0; k < diamond.length; k++) {
            due("25: diamond, colours(" + k + ")", Calls.read(DIAMOND).colours(k), diamond[k]);
        }
        ArrowOrders x = Calls.read(DIAMOND);
        due("25: asked first", x.colours(4), 48);
        due("25: asked again", x.colours(4), 48);
        x.other();
        due("25: asked of another", x.colours(4), 192);
        due("25: five in a round, by 2", Calls.read(FIVE_ROUND).colours(2), 0);
        due("25: five in a round, by 3", Calls.read(FIVE_ROUND).colours(3), 30);
        due("25: no lines", Calls.read("posts a b c d e f g h;").colours(9), 43046721);
        due("25: all lines", Calls.read("posts a b c d e f g h;heap a b c d e f g h;").colours(9), 362880);
        due("25: no posts", Calls.read("posts;").colours(0), 1);
        due("25: too many", Calls.read("posts;").colours(10), NONE);
        due("25: below", Calls.read("posts;").colours(-1), NONE);
    }

    // Promise 26
    private static void set() {
        setAll("none", DIAMOND, 0, 1, 1, 0, 0);
        setAll("one", DIAMOND, 4, 1, 1, 1, 0);
        setAll("chain", DIAMOND, 11, 1, 0, 0, 0);
        setAll("apart", DIAMOND, 6, 0, 1, 1, 0);
        setAll("alike", DIAMOND, 9, 1, 0, 1, 0);
        setAll("all", DIAMOND, 15, 0, 0, 1, 0);
        setAll("a round of 4", "posts a b c d e;way a b c d a e;", 15, 0, 0, 0, 1);
        setAll("no round of 3", "posts a b c;heap a b c;", 7, 1, 0, 1, 0);
        setAll("two threes", "posts a b c d e f;heap a b c;heap d e f;", 63, 0, 0, 1, 0);
        setAll("a round of 8", "posts a b c d e f g h;way a b c d e f g h a;", 255, 0, 0, 1, 1);
        ArrowOrders x = Calls.read(DIAMOND);
        due("26: no set", x.set(16, 0), NONE);
        due("26: below", x.set(-1, 0), NONE);
        due("26: what 4", x.set(0, 4), NONE);
        due("26: what -1", x.set(0, -1), NONE);
    }

    private static void setAll(String about, String text, int set, int... want) {
        ArrowOrders x = Calls.read(text);
        for (int what = 0; what < want.length; what++) {
            due("26: " + about + ": set(" + set + ", " + what + ")", x.set(set, what), want[what]);
        }
    }

    // Promise 27
    private static void like() {
        ArrowOrders x = Calls.read("posts a b c d;way a b c;");
        due("27: holds nothing", x.like(0), NONE);
        x.hold(0);
        due("27: itself", x.like(0), 2);
        x.exchange(0, 3);
        x.exchange(1, 2);
        due("27: exchanged", x.like(0), 2);
        x.line(0, 3);
        due("27: as many lines no more", x.like(0), 0);
        x.line(1, 3);
        x.line(2, 3);
        x.line(0, 1);
        due("27: other lines", x.like(0), 0);
        due("27: no such", x.like(3), NONE);
        due("27: below", x.like(-1), NONE);
        x = Calls.read("posts a b c d e;");
        x.hold(2);
        due("27: no lines", x.like(2), 120);
        x.other();
        due("27: lines just to lines", x.like(2), 0);
        x = Calls.read("posts a b c d e;way a b c d e a;");
        x.hold(1);
        x.other();
        due("27: the other one of five in a round", x.like(1), 10);
    }

    // Promise 28
    private static void hold() {
        ArrowOrders x = Calls.read("posts a b;way a b;");
        due("28: no such", x.hold(3), false);
        due("28: below", x.hold(-1), false);
        due("28: none yet", x.count(10), 0);
        due("28: the last", x.hold(2), true);
        x.line(0, 1);
        due("28: it again", x.hold(2), true);
        due("28: one slot", x.count(10), 1);
        due("28: nothing undone or done", x.count(9), 1);
        x.line(0, 1);
        x.restore(2);
        due("28: the later one", x.count(1), 0);
        x.hold(0);
        x.hold(1);
        due("28: three slots", x.count(10), 3);
    }

    // Promise 29
    private static void restore() {
        ArrowOrders x = Calls.read("posts a b c;way a b c;");
        due("29: holds nothing", x.restore(0), false);
        x.begin();
        x.hold(0);
        x.begin();
        x.other();
        Calls.tell(x, "posts -");
        x.read();
        Calls.tell(x, "posts");
        due("29: no such", x.restore(3), false);
        due("29: below", x.restore(-1), false);
        nears("29: nothing happened", x, 4, 0, 1);
        due("29: nothing happened to what is done", x.count(9), 3);
        due("29: restore(0)", x.restore(0), true);
        nears("29: as held", x, 2, 5, 2);
        due("29: begins as held", x.count(7), 1);
        due("29: so its first line", x.of(0, 3), 0);
        due("29: the tape stays", x.count(8), 5);
        due("29: place() stays", x.place(), 6);
        due("29: nothing can be undone", x.count(9), 0);
        due("29: undo()", x.undo(), false);
        x.line(0, 1);
        due("29: a class, by hand", x.klass(1, 2, 0), 1);
        due("29: it stays there", x.restore(0), true);
        due("29: a class, as held", x.klass(1, 2, 0), 2);
        nears("29: as held again", x, 2, 5, 2);
    }

    // Promise 30
    private static void count() {
        countAll("diamond", DIAMOND, 4, 5, 9, 0, 11, 5, 4);
        countAll("five in a round", FIVE_ROUND, 5, 5, 6, 1, 10, 10, 10);
        countAll("four in a round", "posts a b c d;way a b c d a;", 4, 4, 7, 1, 8, 6, 8);
        countAll("all joined", "posts a b c d e f g h;heap a b c d e f g h;", 8, 28, 255, 0, 255, 8, 40320);
        countAll("a tripod", "posts a b c d;way b a c;way a d;", 4, 3, 9, 0, 7, 8, 6);
        ArrowOrders x = Calls.read("posts a b c;way a b;");
        x.begin();
        x.line(0, 2);
        x.hold(2);
        x.feed(0, 0, 0, 0, 0);
        due("30: begins the other way", x.count(7), 1);
        due("30: bytes", x.count(8), 20);
        due("30: things done", x.count(9), 2);
        due("30: slots", x.count(10), 1);
        due("30: what 11", x.count(11), NONE);
        due("30: what -1", x.count(-1), NONE);
    }

    private static void countAll(String about, String text, int... want) {
        ArrowOrders x = Calls.read(text);
        for (int what = 0; what < want.length; what++) {
            due("30: " + about + ": count(" + what + ")", x.count(what), want[what]);
        }
    }
}
