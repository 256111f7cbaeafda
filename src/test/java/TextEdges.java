/**
 * Each sentence of "Terms I" and of the promises 1 to 5 that names a boundary: a test
 * of its own, under that sentence's words.
 */
public final class TextEdges {
    private static final int NONE = ArrowOrders.NONE;
    private static final int SYNTAX = 1;
    private static final int ROOM = 2;
    private static final int TWICE = 3;
    private static final int NAME = 4;
    private static final int WRONG = 5;
    private static final int LACKS = 6;

    /** 400 tokens (803 bytes), and the text isn't at its end. */
    private static final String FOUR_HUNDRED = "posts a b;way" + " a b".repeat(197) + " a";

    private TextEdges() {
    }

    public static void main(String[] args) {
        longestText();
        longestTokens();
        blanks();
        noBlanks();
        nameLetters();
        nameLength();
        wordsInQuotes();
        intLength();
        intDigits();
        sign();
        noToken();
        postsStatement();
        anyTelling();
        wayNames();
        heapNames();
        crossInts();
        eightPosts();
        postNumbers();
        wayLines();
        heapLines();
        crossPlaces();
        toldAgain();
        withItself();
        lineNumbers();
        firstFault();
        textEnd();
        leastOfOnePlace();
        syntaxStops();
        tokenRoom();
        postRoom();
        roomAheadOfSense();
        postTwice();
        intTwice();
        noPost();
        tooGreat();
        tooFew();
        faultChangesNothing();
        inPlaceOfTheOneAhead();
        inPlaceOfEach();
        newObject();
        feedOrder();
        feedBehind();
        feedRoom();
        backSome();
        backTooMany();
        backBelow();
        readEmpties();
        readBegins();
        placeOfLatest();
        placeStays();
        Calls.close();
    }

    private static void due(String call, long got, long want) {
        Calls.due(call, got, want);
    }

    private static void due(String call, boolean got, boolean want) {
        Calls.due(call, got, want);
    }

    // ---- I: texts, tokens ----

    private static void longestText() {
        Calls.about("A TEXT has 2,000 bytes at most");
        String full = "posts a b;" + " ".repeat(1982) + "way a b;";
        due("length", full.length(), 2000);
        Calls.nears(Calls.read(full), 2, 1);
        Calls.fault(full.substring(0, 1999), SYNTAX, 1999);
        Calls.fault("posts a b;" + "\n".repeat(1983) + "way a b", SYNTAX, 2000);
        Calls.fault(full.substring(0, 1999) + "-", SYNTAX, 1999);
        Calls.fault("posts a" + " ".repeat(1992) + "a", SYNTAX, 2000);
        Calls.fault("posts;cross" + " ".repeat(1986) + "00;", WRONG, 1997);
    }

    private static void longestTokens() {
        Calls.about("TOKENS, the longest that can be");
        Calls.nears(Calls.read("posts ab waya postsa a hea p;way a waya;"), 0, 8, 0, 2, 0, 0);
        Calls.fault("posts a b;waya b;", SYNTAX, 10);
        Calls.fault("posts a b;way ab;", SYNTAX, 16);
        Calls.fault("postsa;", SYNTAX, 0);
        Calls.fault("posts a b;cross 10;", WRONG, 16);
        Calls.fault("posts a;crosss 0;", SYNTAX, 8);
    }

    private static void blanks() {
        Calls.about("TOKENS .. with blanks (9, 10, 13, 32) between");
        for (int sign = 0; sign < 256; sign++) {
            ArrowOrders x = new ArrowOrders();
            Calls.tell(x, "posts a" + (char) sign + "b;");
            boolean blank = sign == 9 || sign == 10 || sign == 13 || sign == 32;
            boolean letter = sign >= 97 && sign <= 122;
            due("byte " + sign + ", read()", x.read(), blank || letter ? 0 : SYNTAX);
            due("byte " + sign + ", count(0)", x.count(0), blank ? 2 : letter ? 1 : 0);
            due("byte " + sign + ", place()", x.place(), blank || letter ? NONE : sign == ';' ? 8 : 7);
        }
        Calls.nears(Calls.read("\r\n\t posts\r\n\t a\r\n\t b\r\n\t ;\r\n\t way\r\n\t a\r\n\t b\r\n\t ;\r\n\t "), 2, 1);
    }

    private static void noBlanks() {
        Calls.about("TOKENS .. or not");
        Calls.nears(Calls.read("posts a b;way a b;cross0 1;heap a b;cross1 0;"), 2, 1);
        Calls.fault("posts a b;cross0a;", SYNTAX, 16);
        Calls.fault("posts a1;", SYNTAX, 7);
        Calls.fault("posts a;cross0way;", SYNTAX, 14);
    }

    private static void nameLetters() {
        Calls.about("NAMES (letters a .. z");
        Calls.nears(Calls.read("posts a z az za;way z za;"), 0, 8, 0, 2);
        for (String sign : new String[] {"`", "{", "@", "[", "A", "Z", "_", "\u00e1", "\u00ff"}) {
            Calls.fault("posts " + sign + ";", SYNTAX, 6);
            Calls.fault("posts a" + sign + ";", SYNTAX, 7);
        }
    }

    private static void nameLength() {
        Calls.about("NAMES (.. 8 at most");
        Calls.nears(Calls.read("posts abcdefgh abcdefgi bbcdefgh abcdefg;way abcdefgh bbcdefgh;"), 4, 0, 1, 0);
        Calls.nears(Calls.read("posts abcdefgh cbcdefgh ebcdefgh qbcdefgh;way abcdefgh ebcdefgh;"), 4, 0, 1, 0);
        Calls.fault("posts abcdefghi;", SYNTAX, 6);
        Calls.fault("posts a b;way a abcdefghb;", SYNTAX, 16);
        Calls.fault("posts " + "a".repeat(1994), SYNTAX, 6);
    }

    private static void wordsInQuotes() {
        Calls.about("NAMES (.. none of the words in quotes)");
        for (String word : new String[] {"posts", "way", "heap", "cross"}) {
            Calls.fault("posts " + word + ";", SYNTAX, 6);
            Calls.fault("posts a " + word + ";", SYNTAX, 8);
            Calls.fault("posts a b;way a " + word + ";", SYNTAX, 16);
            Calls.fault("posts a b;heap " + word + " a;", SYNTAX, 15);
            Calls.read("posts a" + word + " z" + word.substring(1) + " " + word + "z " + word.substring(1) + ";");
        }
    }

    private static void intLength() {
        Calls.about("INTS (1 to 4 digits)");
        Calls.nears(Calls.read("posts a b;cross 1 0;"), 2, 1);
        Calls.nears(Calls.read("posts a b;cross 0001 0000;"), 2, 1);
        Calls.nears(Calls.read("posts a b;cross 001 00;"), 2, 1);
        Calls.fault("posts a b;cross 9999;", WRONG, 16);
        Calls.fault("posts a b;cross 00001 0;", SYNTAX, 16);
        Calls.fault("posts a b;cross 1 00000;", SYNTAX, 18);
        Calls.fault("posts a b;cross " + "0".repeat(300), SYNTAX, 16);
        // A number that would come round to 1.
        Calls.fault("posts a b;cross 0 4294967297;", SYNTAX, 18);
    }

    private static void intDigits() {
        Calls.about("INTS (.. digits)");
        Calls.fault("posts a;cross /;", SYNTAX, 14);
        Calls.fault("posts a;cross :;", SYNTAX, 14);
        Calls.fault("posts a;cross 0/;", SYNTAX, 15);
        Calls.fault("posts a;cross 0:;", SYNTAX, 15);
        Calls.fault("posts a;cross -0;", SYNTAX, 14);
        Calls.fault("posts a b c;cross 9;", WRONG, 18);
        Calls.nears(Calls.read("posts a b c d e f g h;cross 7 6 5 4 3 2 1 0;"), 254, 253, 251, 247, 239, 223, 191, 127);
    }

    private static void sign() {
        Calls.about("the SIGN ;");
        Calls.fault("posts a:", SYNTAX, 7);
        Calls.fault("posts a<", SYNTAX, 7);
        Calls.fault("posts a.", SYNTAX, 7);
        Calls.fault("posts a;;", SYNTAX, 8);
        Calls.fault(";", SYNTAX, 0);
        Calls.fault("posts a b;way;a b;", SYNTAX, 13);
    }

    private static void noToken() {
        Calls.about("A longer one, all else, is no TOKEN");
        Calls.fault("posts a longerone;", SYNTAX, 8);
        Calls.fault("postsposts;", SYNTAX, 0);
        Calls.fault("posts a;cross 12345;", SYNTAX, 14);
        Calls.fault("\u0000", SYNTAX, 0);
        Calls.fault(" \u00ff", SYNTAX, 1);
        Calls.fault("posts a;-", SYNTAX, 8);
        Calls.fault("posts a b;way a b?", SYNTAX, 17);
        Calls.fault("posts a b;cross 0 1!", SYNTAX, 19);
    }

    private static void postsStatement() {
        Calls.about("text: 'posts' {NAME} ';' {TELL}");
        Calls.nears(Calls.read("posts;"));
        Calls.nears(Calls.read("posts a;"), 0);
        Calls.fault("way a b;", SYNTAX, 0);
        Calls.fault("a posts;", SYNTAX, 0);
        Calls.fault("0", SYNTAX, 0);
        Calls.fault("posts a 0;", SYNTAX, 8);
        Calls.fault("posts a way a a;", SYNTAX, 8);
        Calls.fault("posts a;posts a;", SYNTAX, 8);
        Calls.fault("posts a;a;", SYNTAX, 8);
        Calls.fault("posts a;0;", SYNTAX, 8);
    }

    private static void anyTelling() {
        Calls.about("{TELL}");
        Calls.nears(Calls.read("posts a b c;"), 0, 0, 0);
        Calls.nears(Calls.read("posts a b c;heap a b;way b c;cross 0 1 2;"), 2, 5, 2);
        Calls.fault("posts a b;way a b way a b;", SYNTAX, 18);
        Calls.fault("posts a b;heap a b cross 0 1;", SYNTAX, 19);
        Calls.fault("posts a b;cross 0 1 cross 0 1;", SYNTAX, 20);
        Calls.fault("posts a b;way a b;posts;", SYNTAX, 18);
    }

    private static void wayNames() {
        Calls.about("'way' NAME NAME {NAME} ';'");
        Calls.fault("posts a b;way;", SYNTAX, 13);
        Calls.fault("posts a b;way a;", SYNTAX, 15);
        Calls.nears(Calls.read("posts a b;way a b;"), 2, 1);
        Calls.nears(Calls.read("posts a b c;way a b c;"), 2, 5, 2);
        Calls.fault("posts a b;way 0 a;", SYNTAX, 14);
        Calls.fault("posts a b;way a 0;", SYNTAX, 16);
        Calls.fault("posts a b;way a b 0;", SYNTAX, 18);
    }

    private static void heapNames() {
        Calls.about("'heap' NAME NAME {NAME} ';'");
        Calls.fault("posts a b;heap;", SYNTAX, 14);
        Calls.fault("posts a b;heap a;", SYNTAX, 16);
        Calls.nears(Calls.read("posts a b;heap a b;"), 2, 1);
        Calls.nears(Calls.read("posts a b c;heap a b c;"), 6, 5, 3);
        Calls.fault("posts a b;heap a b 0;", SYNTAX, 19);
        Calls.fault("posts a b;heap a 0;", SYNTAX, 17);
        Calls.fault("posts a b;heap 0;", SYNTAX, 15);
    }

    private static void crossInts() {
        Calls.about("'cross' INT {INT} ';'");
        Calls.fault("posts;cross;", SYNTAX, 11);
        Calls.fault("posts a;cross;", SYNTAX, 13);
        Calls.nears(Calls.read("posts a;cross 0;"), 0);
        Calls.fault("posts a b;cross a b;", SYNTAX, 16);
        Calls.fault("posts a b;cross 0 b;", SYNTAX, 18);
    }

    private static void eightPosts() {
        Calls.about("POSTS, 8 at most");
        ArrowOrders x = Calls.read("posts a b c d e f g h;way a h;");
        Calls.nears(x, 128, 0, 0, 0, 0, 0, 0, 1);
        Calls.fault("posts a b c d e f g h i;", ROOM, 22);
    }

    private static void postNumbers() {
        Calls.about("POSTS .. numbered from 0 on as they stand");
        Calls.nears(Calls.read("posts z m a;way z m;"), 2, 1, 0);
        Calls.nears(Calls.read("posts z m a;way a z;"), 4, 0, 1);
    }

    private static void wayLines() {
        Calls.about("'way': a LINE between each NAME and the next one");
        Calls.nears(Calls.read("posts a b c d;way a b c d;"), 2, 5, 10, 4);
        Calls.nears(Calls.read("posts a b c d;way d a c;"), 12, 0, 1, 1);
        Calls.nears(Calls.read("posts a b c;way a b;way c b;"), 2, 5, 2);
        Calls.nears(Calls.read("posts a b c;way a b;way c c;"), 2, 1, 0);
    }

    private static void heapLines() {
        Calls.about("'heap': between each two of them");
        Calls.nears(Calls.read("posts a b c d;heap d b c;"), 0, 12, 10, 6);
        Calls.nears(Calls.read("posts a b c d;heap a b;heap c d;"), 2, 1, 8, 4);
        Calls.nears(Calls.read("posts a b c d;heap a b a c;"), 6, 5, 3, 0);
        Calls.nears(Calls.read("posts a b c d e f g h;heap h g f e d c b a;"), 254, 253, 251, 247, 239, 223, 191, 127);
    }

    private static void crossPlaces() {
        Calls.about("'cross': the INTS are places 0 on, one for each POST (the first for POST 0 ..): "
            + "a LINE between two POSTS if the lesser number has the greater place");
        Calls.nears(Calls.read("posts a b c;cross 2 0 1;"), 6, 1, 1);
        Calls.nears(Calls.read("posts a b c;cross 1 2 0;"), 4, 4, 3);
        Calls.nears(Calls.read("posts a b c;cross 0 1 2;"), 0, 0, 0);
        Calls.nears(Calls.read("posts a b c;cross 2 1 0;"), 6, 5, 3);
        Calls.nears(Calls.read("posts c b a;cross 2 0 1;"), 6, 1, 1);
        Calls.nears(Calls.read("posts a;cross 0;"), 0);
    }

    private static void toldAgain() {
        Calls.about("A LINE told again .. is none more");
        Calls.nears(Calls.read("posts a b;way a b a b;"), 2, 1);
        Calls.nears(Calls.read("posts a b;way a b;way b a;"), 2, 1);
        Calls.nears(Calls.read("posts a b;way a b;heap a b;cross 1 0;"), 2, 1);
        Calls.nears(Calls.read("posts a b;heap a b a;"), 2, 1);
        ArrowOrders x = Calls.read("posts a b;cross 1 0;cross 1 0;");
        due("count(1)", x.count(1), 1);
        Calls.nears(x, 2, 1);
    }

    private static void withItself() {
        Calls.about("A LINE .. of a POST with itself, is none more");
        Calls.nears(Calls.read("posts a;way a a;"), 0);
        Calls.nears(Calls.read("posts a;heap a a a;"), 0);
        Calls.nears(Calls.read("posts a b;way a a b b;"), 2, 1);
        due("count(1)", Calls.read("posts a b;way a a b b;heap b b;").count(1), 1);
    }

    private static void lineNumbers() {
        Calls.about("LINES are numbered from 0 on by their lesser POST, then by their greater one");
        ArrowOrders x = Calls.read("posts a b c d;way d c;way d b;way c a;way b a;");
        int[][] want = {{0, 1}, {0, 2}, {1, 3}, {2, 3}};
        for (int line = 0; line < want.length; line++) {
            due("of(" + line + ", 0)", x.of(line, 0), want[line][0]);
            due("of(" + line + ", 1)", x.of(line, 1), want[line][1]);
        }
        x = Calls.read("posts a b c d e f g h;heap a b c d e f g h;");
        due("of(0, 1)", x.of(0, 1), 1);
        due("of(6, 1)", x.of(6, 1), 7);
        due("of(7, 0)", x.of(7, 0), 1);
        due("of(7, 1)", x.of(7, 1), 2);
        due("of(27, 0)", x.of(27, 0), 6);
        due("of(27, 1)", x.of(27, 1), 7);
        due("of(28, 0)", x.of(28, 0), NONE);
    }

    // ---- I: faults ----

    private static void firstFault() {
        Calls.about("FAULTS of a text, the first by its place");
        Calls.fault("posts a - b -", SYNTAX, 8);
        Calls.fault("posts a b c d e f g h i j -", ROOM, 22);
        Calls.fault("posts a - b c d e f g h i j;", SYNTAX, 8);
        Calls.fault("posts a a b b;", TWICE, 8);
        Calls.fault("posts a b;way a q;cross 0 0;", NAME, 16);
        Calls.fault("posts a b;cross 0 0;way a q;", TWICE, 18);
        Calls.fault("posts a b;cross 0 2 0;", WRONG, 18);
        Calls.fault("posts a b;cross 0 0 2;", TWICE, 18);
        Calls.fault("posts a b;cross 0;cross 2;", LACKS, 17);
        Calls.fault("posts a b;cross 2;cross 0;", WRONG, 16);
        Calls.fault("posts a a;cross 0;", TWICE, 8);
    }

    private static void textEnd() {
        Calls.about("(a byte; the text's end: its length)");
        Calls.fault("", SYNTAX, 0);
        Calls.fault(" ", SYNTAX, 1);
        Calls.fault("posts", SYNTAX, 5);
        Calls.fault("posts  ", SYNTAX, 7);
        Calls.fault("posts a\r\n", SYNTAX, 9);
        Calls.fault("posts a;way", SYNTAX, 11);
        Calls.fault("posts a;way a", SYNTAX, 13);
        Calls.fault("posts a;way a a", SYNTAX, 15);
        Calls.fault("posts a;heap a a ", SYNTAX, 17);
        Calls.fault("posts a;cross", SYNTAX, 13);
        Calls.fault("posts a;cross 0", SYNTAX, 15);
        Calls.fault(FOUR_HUNDRED, SYNTAX, 803);
    }

    private static void leastOfOnePlace() {
        Calls.about("of one place the least");
        Calls.fault(FOUR_HUNDRED + " -", SYNTAX, 804);
        Calls.fault(FOUR_HUNDRED + " way", SYNTAX, 804);
        Calls.fault(FOUR_HUNDRED + " a", ROOM, 804);
        Calls.fault("posts a b c d e f g h toolongone;", SYNTAX, 22);
        Calls.fault("posts a b c d e f g h way;", SYNTAX, 22);
        Calls.fault("posts a b c d e f g h a;", ROOM, 22);
    }

    private static void syntaxStops() {
        Calls.about("1 SYNTAX: a TOKEN, or what is none, with which no text goes on");
        String[] starts = {"", "posts", "posts a", "posts a;", "posts a;way", "posts a;way a", "posts a;way a a",
            "posts a;heap", "posts a;heap a", "posts a;heap a a", "posts a;cross", "posts a;cross 0"};
        String[] next = {"posts", "way", "heap", "cross", "a", "0", ";", "-", ""};
        String[] goesOn = {"100000000", "000010100", "000010100", "011100001", "000010000", "000010000", "000010100",
            "000010000", "000010000", "000010100", "000001000", "000001100"};
        for (int i = 0; i < starts.length; i++) {
            for (int k = 0; k < next.length; k++) {
                ArrowOrders x = new ArrowOrders();
                Calls.tell(x, starts[i] + " " + next[k] + (k == 8 ? "" : " -"));
                x.read();
                int behind = starts[i].length() + 1;
                boolean fits = goesOn[i].charAt(k) == '1';
                int want = k == 8 ? (fits ? NONE : behind) : fits ? behind + next[k].length() + 1 : behind;
                due("place() of " + starts[i] + " " + next[k], x.place(), want);
            }
        }
    }

    private static void tokenRoom() {
        Calls.about("2 ROOM: a 401st TOKEN");
        String ended = "posts a b;way" + " a b".repeat(197) + ";";
        Calls.nears(Calls.read(ended), 2, 1);
        Calls.nears(Calls.read(ended + "  "), 2, 1);
        Calls.fault(ended + "way a b;", ROOM, 802);
        Calls.fault(FOUR_HUNDRED + ";", ROOM, 803);
        Calls.fault(FOUR_HUNDRED + "  b", ROOM, 805);
        Calls.nears(Calls.read("posts a b c;way a b c;" + "way a b;".repeat(96) + "way a b c a;"), 6, 5, 3);
        Calls.fault("posts a;" + "way a a;".repeat(100), ROOM, 804);
    }

    private static void postRoom() {
        Calls.about("2 ROOM: .. a 9th POST (at it)");
        Calls.fault("posts a b c d e f g h ninth;", ROOM, 22);
        Calls.fault("posts a b c d e f g h  i j k", ROOM, 23);
        Calls.fault("posts a b c d e f g h 0;", SYNTAX, 22);
        Calls.fault("posts a b c d e f g h", SYNTAX, 21);
        Calls.fault("posts a a a a a a a a a;", ROOM, 22);
        Calls.nears(Calls.read("posts a b c d e f g h;way a b c d e f g h a;"), 130, 5, 10, 20, 40, 80, 160, 65);
    }

    private static void roomAheadOfSense() {
        Calls.about("If there is none, likewise: 3 .. 6");
        Calls.fault("posts a a;way q", SYNTAX, 15);
        Calls.fault("posts a;way q q;-", SYNTAX, 16);
        Calls.fault("posts a;cross 9;way", SYNTAX, 19);
        Calls.fault("posts a b;cross 0;cross 0 x;", SYNTAX, 26);
        Calls.fault("posts a a b c d e f g h;", ROOM, 22);
        Calls.fault("posts a a;way" + " q".repeat(500) + ";", ROOM, 13 + 1 + 2 * 395);
        Calls.fault("posts a b;cross" + " 1".repeat(500) + ";", ROOM, 15 + 1 + 2 * 395);
    }

    private static void postTwice() {
        Calls.about("3 TWICE: (at it) a POST's NAME told already");
        Calls.fault("posts a a;", TWICE, 8);
        Calls.fault("posts a b c d e f g a;", TWICE, 20);
        Calls.fault("posts a b b;", TWICE, 10);
        Calls.fault("posts a b a a;", TWICE, 10);
        Calls.fault("posts abcdefgh abcdefgh;", TWICE, 15);
        Calls.nears(Calls.read("posts a aa aaa;"), 0, 0, 0);
        Calls.nears(Calls.read("posts abcdefgh zbcdefgh abcdefgz;"), 0, 0, 0);
    }

    private static void intTwice() {
        Calls.about("3 TWICE: (at it) .. an INT of a 'cross' told in it already");
        Calls.fault("posts a b;cross 0 0;", TWICE, 18);
        Calls.fault("posts a b c;cross 0 1 0;", TWICE, 22);
        Calls.fault("posts a b;cross 0 1 1;", TWICE, 20);
        Calls.fault("posts a b;cross 1 0001;", TWICE, 18);
        Calls.fault("posts a b;cross 0 1;cross 1 1;", TWICE, 28);
        Calls.fault("posts a b c d e f g h;cross 7 6 5 4 3 2 1 7;", TWICE, 42);
        Calls.nears(Calls.read("posts a b;cross 0 1;cross 0 1;cross 1 0;"), 2, 1);
    }

    private static void noPost() {
        Calls.about("4 NAME: (at it) no POST");
        Calls.fault("posts a b;way q a;", NAME, 14);
        Calls.fault("posts a b;way a q;", NAME, 16);
        Calls.fault("posts a b;way a b q;", NAME, 18);
        Calls.fault("posts a b;heap q a;", NAME, 15);
        Calls.fault("posts a b;heap a q;", NAME, 17);
        Calls.fault("posts a b;heap a b q;", NAME, 19);
        Calls.fault("posts ab;way ab a;", NAME, 16);
        Calls.fault("posts a;way a aa;", NAME, 14);
        Calls.fault("posts;way a a;", NAME, 10);
        Calls.fault("posts a b c d e f g h;way a i;", NAME, 28);
    }

    private static void tooGreat() {
        Calls.about("5 WRONG: (at the INT) of a 'cross' as great as how many POSTS there are, or greater");
        Calls.nears(Calls.read("posts a b;cross 1 0;"), 2, 1);
        Calls.fault("posts a b;cross 2 0;", WRONG, 16);
        Calls.fault("posts a b;cross 3 0;", WRONG, 16);
        Calls.fault("posts a b;cross 0 1 2;", WRONG, 20);
        Calls.fault("posts;cross 0;", WRONG, 12);
        Calls.fault("posts a b c d e f g h;cross 0 1 2 3 4 5 6 8;", WRONG, 42);
        for (String great : new String[] {"8", "10", "16", "31", "32", "33", "63", "64", "128", "256", "512", "1024", "8192", "9999"}) {
            Calls.fault("posts a b c d e f g h;cross " + great + ";", WRONG, 28);
        }
    }

    private static void tooFew() {
        Calls.about("6 LACKS: (at the ; of a 'cross' without 3, 5) fewer INTS than POSTS");
        Calls.fault("posts a b;cross 0;", LACKS, 17);
        Calls.fault("posts a b;cross 1 \n ;", LACKS, 20);
        Calls.fault("posts a b c d e f g h;cross 0 1 2 3 4 5 6;", LACKS, 41);
        Calls.fault("posts a b c;cross 0 1 2;cross 0 1;", LACKS, 33);
        Calls.fault("posts a b c;cross 2;", LACKS, 19);
        Calls.fault("posts a b c;cross 3;", WRONG, 18);
        Calls.fault("posts a b c;cross 1 1;", TWICE, 20);
        Calls.nears(Calls.read("posts a b;cross 0 1;"), 0, 0);
    }

    private static void faultChangesNothing() {
        Calls.about("A text with a FAULT changes nothing but the tape");
        String[] faulty = {"posts a b c d", "posts a b c d e f g h i;", "posts a a;", "posts a b;way a q;", "posts a;cross 1;", "posts a b;cross 0;"};
        ArrowOrders x = Calls.read("posts a b c;way a b c;");
        x.line(0, 2);
        x.hold(1);
        x.begin();
        for (int number = 1; number <= faulty.length; number++) {
            Calls.tell(x, faulty[number - 1]);
            due("read() of " + faulty[number - 1], x.read(), number);
            due("count(8)", x.count(8), 0);
            Calls.nears(x, 6, 5, 3);
            due("count(7)", x.count(7), 1);
            due("count(9)", x.count(9), 2);
            due("count(10)", x.count(10), 1);
            due("of(0, 3)", x.of(0, 3), 0);
        }
        due("undo()", x.undo(), true);
        due("count(7)", x.count(7), 0);
        due("undo()", x.undo(), true);
        Calls.nears(x, 2, 5, 2);
        due("like(1)", x.like(1), 0);
        due("restore(1)", x.restore(1), true);
        Calls.nears(x, 6, 5, 3);
    }

    private static void inPlaceOfTheOneAhead() {
        Calls.about("else it is in place of the one ahead; nothing can be undone, SLOTS hold nothing");
        ArrowOrders x = Calls.read("posts a b c;heap a b c;");
        x.line(0, 1);
        x.hold(0);
        x.hold(1);
        x.hold(2);
        due("network(1)", x.network(1), 2);
        Calls.tell(x, "posts a b;");
        due("read()", x.read(), 0);
        Calls.nears(x, 0, 0);
        due("network(1)", x.network(1), 0);
        due("count(9)", x.count(9), 0);
        due("undo()", x.undo(), false);
        due("count(10)", x.count(10), 0);
        for (int slot = 0; slot < 3; slot++) {
            due("like(" + slot + ")", x.like(slot), NONE);
            due("restore(" + slot + ")", x.restore(slot), false);
        }
        Calls.nears(x, 0, 0);
        Calls.tell(x, "posts;");
        due("read()", x.read(), 0);
        Calls.nears(x);
    }

    private static void inPlaceOfEach() {
        Calls.about("else it is in place of the one ahead (nothing of that one tells any more)");
        String[] texts = {"posts a b c d e f g h;heap a b c d e f g h;", "posts a b c d e;way a b c d e a;", "posts a b c;way a b;",
            "posts a b c d e f;way a b c d e f a;", "posts;", "posts a b c d e f g h;", "posts a b c d;way a c;way b d;", "posts a;"};
        ArrowOrders x = new ArrowOrders();
        for (int i = 0; i < 25; i++) {
            String text = texts[i * 3 % 8];
            x = i % 5 == 0 ? new ArrowOrders() : x;
            Calls.tell(x, text);
            due("read() of " + text, x.read(), 0);
            Calls.same(text, x, Calls.read(text));
        }
    }

    // ---- promises 1 to 5 ----

    private static void newObject() {
        Calls.about("Promise 1: No POSTS");
        ArrowOrders x = new ArrowOrders();
        Calls.nears(x);
        due("count(1)", x.count(1), 0);
        due("count(7)", x.count(7), 0);
        due("count(8)", x.count(8), 0);
        due("count(9)", x.count(9), 0);
        due("count(10)", x.count(10), 0);
        due("undo()", x.undo(), false);
        due("place()", x.place(), NONE);
        due("line(0, 1)", x.line(0, 1), false);
        ArrowOrders other = Calls.read("posts a b;way a b;");
        Calls.nears(new ArrowOrders());
        Calls.nears(other, 2, 1);
    }

    private static void feedOrder() {
        Calls.about("Promise 2: Twenty bytes, the highest of a first");
        for (int at = 0; at < 20; at++) {
            int[] w = Calls.words(Calls.bytes(" ".repeat(at) + "\u00ff"), 0);
            ArrowOrders x = new ArrowOrders();
            due("feed", x.feed(w[0], w[1], w[2], w[3], w[4]), 20);
            due("read()", x.read(), SYNTAX);
            due("place() of byte " + at, x.place(), at);
        }
        ArrowOrders x = new ArrowOrders();
        due("feed", x.feed(0x706F7374, 0x73206120, 0x62633B77, 0x61792062, 0x6320613B), 20);
        due("read()", x.read(), 0);
        Calls.nears(x, 2, 1);
    }

    private static void feedBehind() {
        Calls.about("Promise 2: .. come behind the tape: how many it has");
        ArrowOrders x = new ArrowOrders();
        Calls.tell(x, "posts ");
        due("count(8)", x.count(8), 6);
        due("feed", x.feed(0x61206220, 0x633B2020, 0x20202020, 0x20202020, 0x20202020), 26);
        due("read()", x.read(), 0);
        Calls.nears(x, 0, 0, 0);
    }

    private static void feedRoom() {
        Calls.about("Promise 2: NONE, and nothing comes, if it would have more than 2,000");
        ArrowOrders x = new ArrowOrders();
        for (int i = 1; i <= 100; i++) {
            due("feed " + i, x.feed(0x20202020, 0x20202020, 0x20202020, 0x20202020, 0x20202020), 20 * i);
        }
        due("feed past 2,000", x.feed(-1, -1, -1, -1, -1), NONE);
        due("count(8)", x.count(8), 2000);
        for (int n = 1; n < 20; n++) {
            due("back(1)", x.back(1), 2000 - n);
            due("feed past 2,000", x.feed(-1, -1, -1, -1, -1), NONE);
            due("count(8)", x.count(8), 2000 - n);
        }
        due("back(1)", x.back(1), 1980);
        due("feed up to 2,000", x.feed(0x20202020, 0x20202020, 0x20202020, 0x20202020, 0x20202020), 2000);
        due("read()", x.read(), SYNTAX);
        due("place(), as nothing came", x.place(), 2000);
        due("feed, room again", x.feed(0, 0, 0, 0, 0), 20);
    }

    private static void backSome() {
        Calls.about("Promise 3: The last n bytes of the tape go: how many it has");
        ArrowOrders x = new ArrowOrders();
        Calls.tell(x, "posts a b;way a b;--");
        due("back(0)", x.back(0), 20);
        due("back(2)", x.back(2), 18);
        due("read()", x.read(), 0);
        Calls.nears(x, 2, 1);
        Calls.tell(x, "posts a b;way a b;");
        due("back(8)", x.back(8), 10);
        due("count(8)", x.count(8), 10);
        due("read()", x.read(), 0);
        Calls.nears(x, 0, 0);
        Calls.tell(x, "posts");
        due("back(5)", x.back(5), 0);
        due("back(0)", x.back(0), 0);
    }

    private static void backTooMany() {
        Calls.about("Promise 3: NONE, and nothing goes, if it has not so many");
        ArrowOrders x = new ArrowOrders();
        due("back(1)", x.back(1), NONE);
        Calls.tell(x, "posts a;");
        due("back(9)", x.back(9), NONE);
        due("back(most)", x.back(Integer.MAX_VALUE), NONE);
        due("count(8)", x.count(8), 8);
        due("read()", x.read(), 0);
        Calls.nears(x, 0);
    }

    private static void backBelow() {
        Calls.about("Promise 3: NONE, and nothing goes, .. or n is below 0");
        ArrowOrders x = new ArrowOrders();
        due("back(-1)", x.back(-1), NONE);
        Calls.tell(x, "posts a;");
        due("back(-1)", x.back(-1), NONE);
        due("back(-8)", x.back(-8), NONE);
        due("back(least)", x.back(Integer.MIN_VALUE), NONE);
        due("count(8)", x.count(8), 8);
        due("read()", x.read(), 0);
        Calls.nears(x, 0);
    }

    private static void readEmpties() {
        Calls.about("Promise 4: The tape, which is empty then, is read");
        ArrowOrders x = new ArrowOrders();
        due("read() of nothing", x.read(), SYNTAX);
        Calls.tell(x, "posts a b;");
        due("read()", x.read(), 0);
        due("count(8)", x.count(8), 0);
        due("read() again", x.read(), SYNTAX);
        due("place()", x.place(), 0);
        Calls.nears(x, 0, 0);
        Calls.tell(x, "posts a-");
        due("read()", x.read(), SYNTAX);
        due("count(8)", x.count(8), 0);
        due("back(1)", x.back(1), NONE);
        Calls.tell(x, "posts a;");
        due("read() of a shorter one", x.read(), 0);
    }

    private static void readBegins() {
        Calls.about("Promise 4: (ARROWED begins the first way)");
        ArrowOrders x = Calls.read("posts a b;way a b;");
        due("begin()", x.begin(), true);
        due("of(0, 3)", x.of(0, 3), 0);
        Calls.tell(x, "posts a b;way a b;");
        due("read()", x.read(), 0);
        due("count(7)", x.count(7), 0);
        due("of(0, 3)", x.of(0, 3), 1);
        due("begin()", x.begin(), true);
    }

    private static void placeOfLatest() {
        Calls.about("Promise 5: The byte of the latest read()'s FAULT; NONE without");
        ArrowOrders x = new ArrowOrders();
        due("place() of no read()", x.place(), NONE);
        Calls.tell(x, "posts a a;");
        x.read();
        due("place()", x.place(), 8);
        Calls.tell(x, "posts a;way a q;");
        x.read();
        due("place()", x.place(), 14);
        x.read();
        due("place()", x.place(), 0);
        Calls.tell(x, "posts a;");
        x.read();
        due("place()", x.place(), NONE);
    }

    private static void placeStays() {
        Calls.about("Promise 5: .. of the latest read()");
        ArrowOrders x = Calls.read("posts a b;way a b;");
        Calls.tell(x, "posts  -");
        x.read();
        x.hold(0);
        x.line(0, 1);
        x.other();
        x.begin();
        x.undo();
        x.restore(0);
        Calls.tell(x, "posts a;");
        x.back(8);
        due("place()", x.place(), 7);
    }
}
