/**
 * Networks whose lines are to be arrowed so that two arrows one behind the other
 * always have the third, and the orders that come of it.
 *
 * Sets of posts are bits of an int (post 0 the lowest); the arrow from a to b is
 * the number 8 a + b, so that arrows stand by the post they come from, then by
 * that to which they go.
 */
public final class ArrowOrders {

    public static final int NONE = -1;

    private static final int NOT_ORDERED = -2;
    private static final int NO_WAY = -2;
    private static final int NO_SIGN = -100000;
    private static final int MOST_POSTS = 8;
    private static final int MOST_ARROWS = 64;
    private static final int MOST_SETS = 256;
    private static final int MOST_COLOURS = 9;
    private static final int SLOTS = 3;

    private final Reader reader = new Reader();
    private final Net net = new Net();
    private final Net opposite = new Net();
    private final Past past = new Past();
    private final Net[] slots = new Net[SLOTS];
    private int held;

    // What follows from the network; stands only as long as known is true.
    private boolean known;
    private final Classes classes = new Classes();
    private final Classes oppositeClasses = new Classes();
    private final Arrowing arrowing = new Arrowing();
    private final Arrowing oppositeArrowing = new Arrowing();
    private final Ranks ranks = new Ranks();

    private final Modules modules = new Modules();
    private final Sharing sharing = new Sharing();
    private final Sending sending = new Sending();

    public ArrowOrders() {
        for (int i = 0; i < SLOTS; i++) {
            slots[i] = new Net();
        }
    }

    // ---- the tape ----

    public int feed(int a, int b, int c, int d, int e) {
        if (!reader.hasRoom()) {
            return NONE;
        }
        reader.addWord(a);
        reader.addWord(b);
        reader.addWord(c);
        reader.addWord(d);
        reader.addWord(e);
        return reader.length;
    }

    public int back(int n) {
        if (n < 0 || n > reader.length) {
            return NONE;
        }
        reader.length -= n;
        return reader.length;
    }

    public int read() {
        reader.readText();
        if (reader.fault == Reader.NO_FAULT) {
            net.copyFrom(reader.told);
            known = false;
            past.forget();
            held = 0;
        }
        return reader.fault;
    }

    public int place() {
        return reader.faultAt;
    }

    // ---- by hand ----

    public boolean line(int a, int b) {
        if (!net.hasPair(a, b)) {
            return false;
        }
        beforeChange();
        net.flip(a, b);
        return true;
    }

    public int other() {
        beforeChange();
        net.turnOver();
        return net.countLines();
    }

    public boolean exchange(int a, int b) {
        if (!net.hasPair(a, b)) {
            return false;
        }
        beforeChange();
        net.swap(a, b);
        return true;
    }

    public int bare(int post) {
        if (!net.hasPost(post)) {
            return NONE;
        }
        int lines = Integer.bitCount(net.rowOf(post));
        if (lines > 0) {
            beforeChange();
            net.strip(post);
        }
        return lines;
    }

    public boolean begin() {
        beforeChange();
        net.otherWay = !net.otherWay;
        return net.otherWay;
    }

    public boolean undo() {
        known = false;
        return past.takeBack(net);
    }

    // ---- lines and arrows ----

    public int of(int line, int what) {
        int arrow = net.lineAt(line);
        if (arrow == NONE || what < 0 || what > 3) {
            return NONE;
        }
        if (what == 0) {
            return arrow / MOST_POSTS;
        }
        if (what == 1) {
            return arrow % MOST_POSTS;
        }
        study();
        if (!classes.isOrdered()) {
            return NOT_ORDERED;
        }
        return what == 2 ? arrowing.stepOf(arrow) : bit(arrowing.has(arrow));
    }

    public int far(int a, int b) {
        if (!net.hasPost(a) || !net.hasPost(b)) {
            return NONE;
        }
        int reached = 1 << a;
        for (int lines = 0; lines < MOST_POSTS; lines++) {
            if (contains(reached, b)) {
                return lines;
            }
            reached |= Sets.touched(net.rows, reached);
        }
        return NO_WAY;
    }

    public int near(int post) {
        return net.hasPost(post) ? net.rowOf(post) : NONE;
    }

    public int forces(int a, int b, int c, int d) {
        if (!net.hasLine(a, b) || !net.hasLine(c, d)) {
            return NONE;
        }
        return bit(Reach.compels(net.rows, arrowFrom(a, b), arrowFrom(c, d)));
    }

    public int klass(int a, int b, int what) {
        if (!net.hasLine(a, b)) {
            return NONE;
        }
        study();
        int arrow = arrowFrom(a, b);
        switch (what) {
            case 0: return classes.sizeOf(arrow);
            case 1: return bit(classes.isOdd(arrow));
            case 2: return classes.linesOf(arrow);
            case 3: return classes.walkLength(arrow);
            default: return NONE;
        }
    }

    public int walk(int a, int b, int i) {
        if (!net.hasLine(a, b)) {
            return NONE;
        }
        study();
        return classes.walkAt(arrowFrom(a, b), i);
    }

    // ---- the network and its order ----

    public int network(int what) {
        study();
        switch (what) {
            case 0: return bit(classes.isOrdered());
            case 1: return classes.countAll();
            case 2: return classes.countOdd();
            case 3: return classes.isOrdered() ? modules.ways(net, opposite) : 0;
            case 4: return classes.isOrdered() ? arrowing.countSteps() : NOT_ORDERED;
            case 5: return bit(isCrossed());
            case 6: return bit(oppositeClasses.isOrdered());
            case 7: return Sets.parts(net.rows, net.everyPost());
            default: return NONE;
        }
    }

    public int under(int a, int b) {
        if (!net.hasPost(a) || !net.hasPost(b)) {
            return NONE;
        }
        study();
        if (!classes.isOrdered()) {
            return NOT_ORDERED;
        }
        return bit(ranks.isUnder(a, b));
    }

    public int post(int post, int what) {
        if (!net.hasPost(post) || what < 0 || what > 6) {
            return NONE;
        }
        study();
        if (!classes.isOrdered()) {
            return NOT_ORDERED;
        }
        switch (what) {
            case 0: return ranks.levelOf(post);
            case 1: return ranks.belowOf(post);
            case 2: return ranks.aboveOf(post);
            case 3: return ranks.coveredBy(post);
            case 4: return ranks.firstPlaceOf(post);
            case 5: return crossedPlace(post, false);
            default: return crossedPlace(post, true);
        }
    }

    public int order(int what) {
        if (what < 0 || what > 9) {
            return NONE;
        }
        study();
        if (!classes.isOrdered()) {
            return NOT_ORDERED;
        }
        switch (what) {
            case 0: return ranks.countStraight();
            case 1: return ranks.countCovers();
            case 2: return Integer.bitCount(Sets.greatestApart(opposite.rows, net.everyPost()));
            case 3: return Sets.greatestApart(opposite.rows, net.everyPost());
            case 4: return Integer.bitCount(Sets.greatestApart(net.rows, net.everyPost()));
            case 5: return Sets.greatestApart(net.rows, net.everyPost());
            case 6: return sharing.share(net);
            case 7: return ranks.greatestLevel();
            case 8: return ranks.countDown();
            default: return ranks.fewestJumps();
        }
    }

    public int chain(int post) {
        if (!net.hasPost(post)) {
            return NONE;
        }
        study();
        if (!classes.isOrdered()) {
            return NOT_ORDERED;
        }
        sharing.share(net);
        return sharing.groupOf(post);
    }

    public int straight(int i, int k) {
        if (i < 0 || !net.hasPost(k)) {
            return NONE;
        }
        study();
        return classes.isOrdered() ? ranks.straightAt(i, k) : NOT_ORDERED;
    }

    public int sign(int a, int b) {
        if (!net.hasPost(a) || !net.hasPost(b)) {
            return NO_SIGN;
        }
        study();
        return classes.isOrdered() ? ranks.signOf(a, b) : NO_SIGN;
    }

    public int colours(int k) {
        if (k < 0 || k > MOST_COLOURS) {
            return NONE;
        }
        return sharing.colourings(net, k);
    }

    // ---- sets, likeness, slots, counts ----

    public int set(int set, int what) {
        if (set < 0 || set > net.everyPost()) {
            return NONE;
        }
        study();
        switch (what) {
            case 0: return bit(Sets.isApart(opposite.rows, set));
            case 1: return bit(Sets.isApart(net.rows, set));
            case 2: return bit(Sets.isAlike(net.rows, set, net.everyPost()));
            case 3: return bit(Sets.isRound(net.rows, set));
            default: return NONE;
        }
    }

    public int like(int slot) {
        Net from = heldIn(slot);
        return from == null ? NONE : sending.ways(net, from);
    }

    public boolean hold(int slot) {
        if (slot < 0 || slot >= SLOTS) {
            return false;
        }
        slots[slot].copyFrom(net);
        held |= 1 << slot;
        return true;
    }

    public boolean restore(int slot) {
        Net from = heldIn(slot);
        if (from == null) {
            return false;
        }
        net.copyFrom(from);
        known = false;
        past.forget();
        return true;
    }

    public int count(int what) {
        study();
        int all = net.everyPost();
        switch (what) {
            case 0: return net.posts;
            case 1: return net.countLines();
            case 2: return Sets.countAlike(net.rows, all);
            case 3: return Sets.countRounds(net.rows, all);
            case 4: return Sets.countApart(opposite.rows, all);
            case 5: return Sets.countApart(net.rows, all);
            case 6: return sending.ways(net, net);
            case 7: return bit(net.otherWay);
            case 8: return reader.length;
            case 9: return past.size;
            case 10: return Integer.bitCount(held);
            default: return NONE;
        }
    }

    // ---- behind the face ----

    private static int bit(boolean holds) {
        return holds ? 1 : 0;
    }

    private static int arrowFrom(int a, int b) {
        return MOST_POSTS * a + b;
    }

    private static int against(int arrow) {
        return arrowFrom(arrow % MOST_POSTS, arrow / MOST_POSTS);
    }

    private static boolean contains(int set, int post) {
        return (set >> post & 1) == 1;
    }

    private static boolean isArrow(int[] rows, int arrow) {
        return contains(rows[arrow / MOST_POSTS], arrow % MOST_POSTS);
    }

    private void beforeChange() {
        past.keep(net);
        known = false;
    }

    private Net heldIn(int slot) {
        if (slot < 0 || slot >= SLOTS || !contains(held, slot)) {
            return null;
        }
        return slots[slot];
    }

    private boolean isCrossed() {
        return classes.isOrdered() && oppositeClasses.isOrdered();
    }

    /** Works out what follows from the network, if it has changed since the last time. */
    private void study() {
        if (known) {
            return;
        }
        opposite.copyFrom(net);
        opposite.turnOver();
        classes.solve(net.rows);
        oppositeClasses.solve(opposite.rows);
        if (classes.isOrdered()) {
            arrowing.solve(net.rows, net.otherWay);
            ranks.solve(net.posts, arrowing);
        }
        if (oppositeClasses.isOrdered()) {
            oppositeArrowing.solve(opposite.rows, false);
        }
        known = true;
    }

    /** Both sorts of arrows together put each two posts in a row, so those ahead tell the place. */
    private int crossedPlace(int post, boolean turned) {
        if (!isCrossed()) {
            return NOT_ORDERED;
        }
        int ahead = 0;
        for (int p = 0; p < net.posts; p++) {
            int arrow = turned ? arrowFrom(post, p) : arrowFrom(p, post);
            if (arrowing.has(arrow) || oppositeArrowing.has(arrowFrom(p, post))) {
                ahead++;
            }
        }
        return ahead;
    }

    /** Posts, the lines between them, and whether ARROWED begins the other way. */
    private static final class Net {
        int posts;
        boolean otherWay;
        final int[] rows = new int[MOST_POSTS];

        boolean hasPost(int post) {
            return post >= 0 && post < posts && post < MOST_POSTS;
        }

        boolean hasPair(int a, int b) {
            return a != b && hasPost(a) && hasPost(b);
        }

        boolean hasLine(int a, int b) {
            return hasPair(a, b) && contains(rows[a], b);
        }

        int rowOf(int post) {
            return hasPost(post) ? rows[post] : 0;
        }

        int everyPost() {
            return (1 << posts) - 1;
        }

        int countLines() {
            int ends = 0;
            for (int p = 0; p < MOST_POSTS; p++) {
                ends += Integer.bitCount(rows[p]);
            }
            return ends / 2;
        }

        /** The arrow from the lesser post of the line with a number, or NONE. */
        int lineAt(int number) {
            int seen = 0;
            for (int arrow = 0; arrow < MOST_ARROWS; arrow++) {
                if (arrow < against(arrow) && isArrow(rows, arrow)) {
                    if (seen == number) {
                        return arrow;
                    }
                    seen++;
                }
            }
            return NONE;
        }

        void clear() {
            posts = 0;
            otherWay = false;
            for (int p = 0; p < MOST_POSTS; p++) {
                rows[p] = 0;
            }
        }

        void copyFrom(Net from) {
            posts = from.posts;
            otherWay = from.otherWay;
            for (int p = 0; p < MOST_POSTS; p++) {
                rows[p] = from.rows[p];
            }
        }

        void join(int a, int b) {
            if (hasPair(a, b)) {
                rows[a] |= 1 << b;
                rows[b] |= 1 << a;
            }
        }

        void flip(int a, int b) {
            if (hasPair(a, b)) {
                rows[a] ^= 1 << b;
                rows[b] ^= 1 << a;
            }
        }

        void turnOver() {
            for (int p = 0; p < posts && p < MOST_POSTS; p++) {
                rows[p] = everyPost() & ~rows[p] & ~(1 << p);
            }
        }

        /** A line between both of them stays: it is a line of each. */
        void swap(int a, int b) {
            if (!hasPair(a, b)) {
                return;
            }
            for (int p = 0; p < posts; p++) {
                if (p != a && p != b && hasLine(a, p) != hasLine(b, p)) {
                    flip(a, p);
                    flip(b, p);
                }
            }
        }

        void strip(int post) {
            for (int p = 0; p < posts; p++) {
                if (hasLine(post, p)) {
                    flip(post, p);
                }
            }
        }
    }

    /** The networks ahead of the last things done by hand, in a ring. */
    private static final class Past {
        static final int MOST_UNDONE = 40;

        final Net[] ring = new Net[MOST_UNDONE];
        int next;
        int size;

        Past() {
            for (int i = 0; i < MOST_UNDONE; i++) {
                ring[i] = new Net();
            }
        }

        void keep(Net net) {
            ring[next].copyFrom(net);
            next = (next + 1) % MOST_UNDONE;
            size = Math.min(size + 1, MOST_UNDONE);
        }

        boolean takeBack(Net net) {
            if (size == 0) {
                return false;
            }
            size--;
            next = (next + MOST_UNDONE - 1) % MOST_UNDONE;
            net.copyFrom(ring[next]);
            return true;
        }

        void forget() {
            size = 0;
        }
    }

    /** The tape, and what its text tells. */
    private static final class Reader {
        static final int MOST_BYTES = 2000;
        static final int FED = 20;
        static final int MOST_TOKENS = 400;
        static final int LONGEST_NAME = 8;
        static final int LONGEST_INT = 4;

        static final int NO_FAULT = 0;
        static final int SYNTAX = 1;
        static final int ROOM = 2;
        static final int TWICE = 3;
        static final int UNKNOWN_NAME = 4;
        static final int WRONG = 5;
        static final int LACKS = 6;

        static final int NAME = 1;
        static final int INT = 2;
        static final int SEMICOLON = 3;
        static final int POSTS = 4;
        static final int WAY = 5;
        static final int HEAP = 6;
        static final int CROSS = 7;
        static final int NO_TOKEN = 8;
        static final int END = 9;

        static final int AT_START = 0;
        static final int IN_POSTS = 1;
        static final int BETWEEN = 2;
        static final int TWO_NAMES_DUE = 3;
        static final int NAME_DUE = 4;
        static final int IN_NAMES = 5;
        static final int INT_DUE = 6;
        static final int IN_INTS = 7;
        static final int BROKEN = 8;

        final byte[] bytes = new byte[MOST_BYTES];
        int length;
        int fault;
        int faultAt = NONE;
        final Net told = new Net();

        final int[] kinds = new int[MOST_TOKENS];
        final int[] starts = new int[MOST_TOKENS];
        final long[] values = new long[MOST_TOKENS];
        int tokens;
        int next;

        final long[] names = new long[MOST_POSTS];
        final int[] places = new int[MOST_POSTS];
        int sentence;
        int seen;
        int placesTold;

        boolean hasRoom() {
            return length + FED <= MOST_BYTES;
        }

        void addWord(int word) {
            for (int shift = 24; shift >= 0 && length < MOST_BYTES; shift -= 8) {
                bytes[length] = (byte) (word >> shift);
                length++;
            }
        }

        void readText() {
            fault = NO_FAULT;
            faultAt = NONE;
            checkForm();
            told.clear();
            for (int i = 0; i < tokens && fault == NO_FAULT; i++) {
                tell(kinds[i], values[i], starts[i]);
            }
            length = 0;
        }

        void refuse(int kind, int at) {
            fault = kind;
            faultAt = at;
        }

        // -- tokens --

        /** Looks for faults of form, up to the first, and keeps the tokens. */
        void checkForm() {
            tokens = 0;
            next = 0;
            int state = AT_START;
            int posts = 0;
            for (int i = 0; i <= MOST_TOKENS; i++) {
                skipBlanks();
                int start = next;
                int kind = scan();
                if (kind == END && state == BETWEEN) {
                    return;
                }
                state = follow(state, kind);
                if (state == BROKEN) {
                    refuse(SYNTAX, start);
                    return;
                }
                if (state == IN_POSTS && kind == NAME) {
                    posts++;
                }
                if (posts > MOST_POSTS || tokens >= MOST_TOKENS) {
                    refuse(ROOM, start);
                    return;
                }
                keepToken(kind, start);
            }
        }

        void keepToken(int kind, int start) {
            kinds[tokens] = kind;
            starts[tokens] = start;
            values[tokens] = kind == NAME ? codeOf(start, next) : kind == INT ? numberOf(start, next) : 0;
            tokens++;
        }

        static int follow(int state, int kind) {
            switch (state) {
                case AT_START: return kind == POSTS ? IN_POSTS : BROKEN;
                case IN_POSTS: return kind == NAME ? IN_POSTS : kind == SEMICOLON ? BETWEEN : BROKEN;
                case BETWEEN: return kind == WAY || kind == HEAP ? TWO_NAMES_DUE : kind == CROSS ? INT_DUE : BROKEN;
                case TWO_NAMES_DUE: return kind == NAME ? NAME_DUE : BROKEN;
                case NAME_DUE: return kind == NAME ? IN_NAMES : BROKEN;
                case IN_NAMES: return kind == NAME ? IN_NAMES : kind == SEMICOLON ? BETWEEN : BROKEN;
                case INT_DUE: return kind == INT ? IN_INTS : BROKEN;
                case IN_INTS: return kind == INT ? IN_INTS : kind == SEMICOLON ? BETWEEN : BROKEN;
                default: return BROKEN;
            }
        }

        void skipBlanks() {
            for (int i = 0; i < MOST_BYTES && isBlankAt(next); i++) {
                next++;
            }
        }

        /** Goes behind the token that begins at next: its kind. */
        int scan() {
            if (next >= length) {
                return END;
            }
            int start = next;
            if (isLetterAt(start)) {
                for (int i = 0; i < MOST_BYTES && isLetterAt(next); i++) {
                    next++;
                }
                return next - start > LONGEST_NAME ? NO_TOKEN : wordKind(start, next);
            }
            if (isDigitAt(start)) {
                for (int i = 0; i < MOST_BYTES && isDigitAt(next); i++) {
                    next++;
                }
                return next - start > LONGEST_INT ? NO_TOKEN : INT;
            }
            next++;
            return signAt(start) == ';' ? SEMICOLON : NO_TOKEN;
        }

        int wordKind(int from, int to) {
            if (isWord(from, to, "posts")) {
                return POSTS;
            }
            if (isWord(from, to, "way")) {
                return WAY;
            }
            if (isWord(from, to, "heap")) {
                return HEAP;
            }
            return isWord(from, to, "cross") ? CROSS : NAME;
        }

        boolean isWord(int from, int to, String word) {
            if (to - from != word.length()) {
                return false;
            }
            for (int i = 0; i < word.length(); i++) {
                if (signAt(from + i) != word.charAt(i)) {
                    return false;
                }
            }
            return true;
        }

        /** The byte at a place of the tape; 0 where there is none. */
        int signAt(int at) {
            return at >= 0 && at < length && at < MOST_BYTES ? bytes[at] & 255 : 0;
        }

        boolean isBlankAt(int at) {
            int sign = signAt(at);
            return sign == 9 || sign == 10 || sign == 13 || sign == 32;
        }

        boolean isLetterAt(int at) {
            return signAt(at) >= 'a' && signAt(at) <= 'z';
        }

        boolean isDigitAt(int at) {
            return signAt(at) >= '0' && signAt(at) <= '9';
        }

        /** Names of 8 letters at most have each a number of their own: 8 bytes. */
        long codeOf(int from, int to) {
            long code = 0;
            for (int at = from; at < to; at++) {
                code = code << 8 | signAt(at);
            }
            return code;
        }

        long numberOf(int from, int to) {
            long number = 0;
            for (int at = from; at < to; at++) {
                number = 10 * number + signAt(at) - '0';
            }
            return number;
        }

        // -- what the tokens tell --

        void tell(int kind, long value, int at) {
            switch (kind) {
                case NAME:
                    if (sentence == POSTS) {
                        tellPost(value, at);
                    } else {
                        tellEnd(value, at);
                    }
                    break;
                case INT:
                    tellPlace((int) value, at);
                    break;
                case SEMICOLON:
                    if (sentence == CROSS && placesTold < told.posts) {
                        refuse(LACKS, at);
                    }
                    break;
                default:
                    sentence = kind;
                    seen = 0;
                    placesTold = 0;
                    break;
            }
        }

        int postNamed(long name) {
            for (int p = 0; p < told.posts; p++) {
                if (told.hasPost(p) && names[p] == name) {
                    return p;
                }
            }
            return NONE;
        }

        void tellPost(long name, int at) {
            if (postNamed(name) != NONE) {
                refuse(TWICE, at);
            } else if (told.posts < MOST_POSTS) {
                names[told.posts] = name;
                told.posts++;
            }
        }

        /** A name of a way or heap: seen are the posts with which it has lines. */
        void tellEnd(long name, int at) {
            int post = postNamed(name);
            if (post == NONE) {
                refuse(UNKNOWN_NAME, at);
                return;
            }
            for (int p = 0; p < told.posts; p++) {
                if (contains(seen, p)) {
                    told.join(p, post);
                }
            }
            seen = sentence == HEAP ? seen | 1 << post : 1 << post;
        }

        /** An int of a cross: seen are the places told already. */
        void tellPlace(int place, int at) {
            if (place < 0 || place >= told.posts) {
                refuse(WRONG, at);
                return;
            }
            if (contains(seen, place)) {
                refuse(TWICE, at);
                return;
            }
            if (placesTold >= MOST_POSTS) {
                return;
            }
            for (int p = 0; p < placesTold; p++) {
                if (places[p] > place) {
                    told.join(p, placesTold);
                }
            }
            places[placesTold] = place;
            placesTold++;
            seen |= 1 << place;
        }
    }

    /**
     * All arrows that one comes to by forcing, and in how many steps. Forcing goes
     * both ways, so these are the steps from each of them to the arrow, too.
     */
    private static final class Reach {
        final int[] steps = new int[MOST_ARROWS];
        final int[] found = new int[MOST_ARROWS];
        int size;

        static boolean compels(int[] rows, int arrow, int forced) {
            int a = arrow / MOST_POSTS;
            int b = arrow % MOST_POSTS;
            int c = forced / MOST_POSTS;
            int d = forced % MOST_POSTS;
            if (a == c) {
                return b != d && contains(rows[a], d) && !contains(rows[b], d);
            }
            return b == d && contains(rows[b], c) && !contains(rows[a], c);
        }

        void spread(int[] rows, int arrow) {
            for (int i = 0; i < MOST_ARROWS; i++) {
                steps[i] = NONE;
            }
            size = 0;
            reach(arrow, 0);
            for (int i = 0; i < size && i < MOST_ARROWS; i++) {
                reachForced(rows, found[i]);
            }
        }

        void reachForced(int[] rows, int arrow) {
            int a = arrow / MOST_POSTS;
            int b = arrow % MOST_POSTS;
            int ends = rows[a] & ~rows[b] & ~(1 << b);
            int starts = rows[b] & ~rows[a] & ~(1 << a);
            for (int c = 0; c < MOST_POSTS; c++) {
                if (contains(ends, c)) {
                    reach(arrowFrom(a, c), steps[arrow] + 1);
                }
                if (contains(starts, c)) {
                    reach(arrowFrom(c, b), steps[arrow] + 1);
                }
            }
        }

        void reach(int arrow, int after) {
            if (steps[arrow] == NONE && size < MOST_ARROWS) {
                steps[arrow] = after;
                found[size] = arrow;
                size++;
            }
        }
    }

    /** The classes of the arrows among all lines, and forced walks. */
    private static final class Classes {
        final Reach reach = new Reach();
        final int[] rows = new int[MOST_POSTS];
        final int[] classOf = new int[MOST_ARROWS];
        int classes;
        int odd;

        void solve(int[] lines) {
            for (int p = 0; p < MOST_POSTS; p++) {
                rows[p] = lines[p];
            }
            for (int arrow = 0; arrow < MOST_ARROWS; arrow++) {
                classOf[arrow] = NONE;
            }
            classes = 0;
            odd = 0;
            for (int arrow = 0; arrow < MOST_ARROWS; arrow++) {
                if (isArrow(rows, arrow) && classOf[arrow] == NONE) {
                    addClass(arrow);
                }
            }
        }

        void addClass(int arrow) {
            reach.spread(rows, arrow);
            for (int i = 0; i < reach.size; i++) {
                classOf[reach.found[i]] = classes;
            }
            classes++;
            if (isOdd(arrow)) {
                odd++;
            }
        }

        boolean isOrdered() {
            return odd == 0;
        }

        int countAll() {
            return classes;
        }

        int countOdd() {
            return odd;
        }

        int sizeOf(int arrow) {
            int size = 0;
            for (int i = 0; i < MOST_ARROWS; i++) {
                if (classOf[i] == classOf[arrow]) {
                    size++;
                }
            }
            return size;
        }

        /** If two of a class are against each other, each of it has its own against it there. */
        boolean isOdd(int arrow) {
            return classOf[arrow] == classOf[against(arrow)];
        }

        int linesOf(int arrow) {
            int lines = 0;
            int number = 0;
            for (int i = 0; i < MOST_ARROWS; i++) {
                if (i < against(i) && isArrow(rows, i)) {
                    if (classOf[i] == classOf[arrow] || classOf[against(i)] == classOf[arrow]) {
                        lines |= 1 << number;
                    }
                    number++;
                }
            }
            return lines;
        }

        int walkLength(int arrow) {
            if (!isOdd(arrow)) {
                return 0;
            }
            reach.spread(rows, against(arrow));
            return reach.steps[arrow] + 1;
        }

        int walkAt(int arrow, int i) {
            if (i < 0 || i >= walkLength(arrow)) {
                return NONE;
            }
            int at = arrow;
            for (int step = 0; step < i && step < MOST_ARROWS; step++) {
                at = nextOfWalk(at);
            }
            return at;
        }

        /** The first of the arrows by which the walk's end comes nearer. */
        int nextOfWalk(int arrow) {
            for (int i = 0; i < MOST_ARROWS; i++) {
                if (isArrow(rows, i) && reach.steps[i] == reach.steps[arrow] - 1 && Reach.compels(rows, arrow, i)) {
                    return i;
                }
            }
            return arrow;
        }
    }

    /** The lines arrowed class by class. */
    private static final class Arrowing {
        final Reach reach = new Reach();
        final int[] left = new int[MOST_POSTS];
        final int[] above = new int[MOST_POSTS];
        final int[] step = new int[MOST_ARROWS];
        int steps;

        void solve(int[] rows, boolean otherWay) {
            for (int p = 0; p < MOST_POSTS; p++) {
                left[p] = rows[p];
                above[p] = 0;
            }
            steps = 0;
            for (int arrow = 0; arrow < MOST_ARROWS; arrow++) {
                if (isArrow(left, arrow)) {
                    boolean turned = steps == 0 && otherWay;
                    takeClass(turned ? against(arrow) : arrow);
                }
            }
        }

        void takeClass(int arrow) {
            reach.spread(left, arrow);
            for (int i = 0; i < reach.size; i++) {
                int taken = reach.found[i];
                int a = taken / MOST_POSTS;
                int b = taken % MOST_POSTS;
                above[a] |= 1 << b;
                step[taken] = steps;
                step[against(taken)] = steps;
                left[a] &= ~(1 << b);
                left[b] &= ~(1 << a);
            }
            steps++;
        }

        boolean has(int arrow) {
            return isArrow(above, arrow);
        }

        int stepOf(int arrow) {
            return step[arrow];
        }

        int countSteps() {
            return steps;
        }
    }

    /** What follows from who is under whom. */
    private static final class Ranks {
        static final int UNREACHED = 1000;

        final int[] above = new int[MOST_POSTS];
        final int[] below = new int[MOST_POSTS];
        final int[] levels = new int[MOST_POSTS];
        final int[] waysOn = new int[MOST_SETS];
        final int[] signs = new int[MOST_POSTS];
        final int[] jumps = new int[MOST_SETS * MOST_POSTS];
        int posts;

        void solve(int count, Arrowing arrowing) {
            posts = Math.min(count, MOST_POSTS);
            for (int p = 0; p < MOST_POSTS; p++) {
                above[p] = arrowing.above[p];
                below[p] = 0;
                levels[p] = 0;
            }
            for (int arrow = 0; arrow < MOST_ARROWS; arrow++) {
                if (isArrow(above, arrow)) {
                    below[arrow % MOST_POSTS] |= 1 << arrow / MOST_POSTS;
                }
            }
            // No row has more arrows than there are posts, so that many rounds are enough.
            for (int round = 0; round < posts; round++) {
                raiseLevels();
            }
            countWaysOn();
        }

        void raiseLevels() {
            for (int arrow = 0; arrow < MOST_ARROWS; arrow++) {
                if (isArrow(above, arrow)) {
                    int upper = arrow % MOST_POSTS;
                    levels[upper] = Math.max(levels[upper], levels[arrow / MOST_POSTS] + 1);
                }
            }
        }

        /** From the full set down: ways to put the posts not in a set behind those in it. */
        void countWaysOn() {
            int all = (1 << posts) - 1;
            waysOn[all] = 1;
            for (int set = all - 1; set >= 0; set--) {
                waysOn[set] = 0;
                for (int p = 0; p < posts; p++) {
                    if (isNext(set, p)) {
                        waysOn[set] += waysOn[set | 1 << p];
                    }
                }
            }
        }

        boolean isNext(int set, int post) {
            return !contains(set, post) && (below[post] & ~set) == 0;
        }

        boolean isUnder(int a, int b) {
            return contains(above[a], b);
        }

        int levelOf(int post) {
            return levels[post];
        }

        int belowOf(int post) {
            return below[post];
        }

        int aboveOf(int post) {
            return above[post];
        }

        int coveredBy(int post) {
            int covered = 0;
            for (int p = 0; p < posts; p++) {
                if (contains(above[post], p) && (above[post] & below[p]) == 0) {
                    covered |= 1 << p;
                }
            }
            return covered;
        }

        int countCovers() {
            int covers = 0;
            for (int p = 0; p < posts; p++) {
                covers += Integer.bitCount(coveredBy(p));
            }
            return covers;
        }

        int greatestLevel() {
            int greatest = NONE;
            for (int p = 0; p < posts; p++) {
                greatest = Math.max(greatest, levels[p]);
            }
            return greatest;
        }

        int countStraight() {
            return waysOn[0];
        }

        /** The post at a place of a straight order, or NONE. */
        int straightAt(int number, int place) {
            if (number < 0 || number >= waysOn[0]) {
                return NONE;
            }
            int left = number;
            int set = 0;
            int last = NONE;
            for (int i = 0; i <= place && i < posts; i++) {
                for (int p = 0; p < posts; p++) {
                    if (isNext(set, p)) {
                        last = p;
                        if (left < waysOn[set | 1 << p]) {
                            break;
                        }
                        left -= waysOn[set | 1 << p];
                    }
                }
                set |= 1 << last;
            }
            return last;
        }

        int firstPlaceOf(int post) {
            for (int place = 0; place < posts; place++) {
                if (straightAt(0, place) == post) {
                    return place;
                }
            }
            return NONE;
        }

        int countDown() {
            int down = 0;
            for (int set = 0; set < 1 << posts; set++) {
                if (isDown(set)) {
                    down++;
                }
            }
            return down;
        }

        boolean isDown(int set) {
            for (int p = 0; p < posts; p++) {
                if (contains(set, p) && (below[p] & ~set) != 0) {
                    return false;
                }
            }
            return true;
        }

        /** The straight order puts all between a and b ahead of b, so one pass through it is enough. */
        int signOf(int a, int b) {
            if (a != b && !isUnder(a, b)) {
                return 0;
            }
            for (int p = 0; p < MOST_POSTS; p++) {
                signs[p] = 0;
            }
            signs[a] = 1;
            for (int place = 0; place < posts; place++) {
                int p = straightAt(0, place);
                if (p != NONE && isUnder(a, p)) {
                    signs[p] = -sumOfSigns(below[p]);
                }
            }
            return signs[b];
        }

        int sumOfSigns(int set) {
            int sum = 0;
            for (int p = 0; p < posts; p++) {
                if (contains(set, p)) {
                    sum += signs[p];
                }
            }
            return sum;
        }

        int fewestJumps() {
            int cells = MOST_POSTS << posts;
            for (int i = 0; i < cells && i < jumps.length; i++) {
                jumps[i] = UNREACHED;
            }
            for (int p = 0; p < posts; p++) {
                if (isNext(0, p)) {
                    jumps[jumpCell(1 << p, p)] = 0;
                }
            }
            int all = (1 << posts) - 1;
            for (int set = 0; set < all; set++) {
                jumpOn(set);
            }
            int fewest = posts == 0 ? 0 : UNREACHED;
            for (int p = 0; p < posts; p++) {
                fewest = Math.min(fewest, jumps[jumpCell(all, p)]);
            }
            return fewest;
        }

        static int jumpCell(int set, int last) {
            return set * MOST_POSTS + last;
        }

        void jumpOn(int set) {
            for (int last = 0; last < posts; last++) {
                int soFar = jumps[jumpCell(set, last)];
                for (int p = 0; p < posts && soFar < UNREACHED; p++) {
                    if (isNext(set, p)) {
                        int cell = jumpCell(set | 1 << p, p);
                        jumps[cell] = Math.min(jumps[cell], soFar + bit(!isUnder(last, p)));
                    }
                }
            }
        }
    }

    /** Sets of posts; a chain is a set that is apart in the other network. */
    private static final class Sets {

        static int touched(int[] rows, int set) {
            int touched = 0;
            for (int p = 0; p < MOST_POSTS; p++) {
                if (contains(set, p)) {
                    touched |= rows[p];
                }
            }
            return touched;
        }

        static boolean isApart(int[] rows, int set) {
            return (touched(rows, set) & set) == 0;
        }

        static boolean isAlike(int[] rows, int set, int all) {
            if (set == 0) {
                return false;
            }
            for (int p = 0; p < MOST_POSTS; p++) {
                int lines = rows[p] & set;
                if (contains(all & ~set, p) && lines != 0 && lines != set) {
                    return false;
                }
            }
            return true;
        }

        static boolean isRound(int[] rows, int set) {
            if (Integer.bitCount(set) < 4) {
                return false;
            }
            for (int p = 0; p < MOST_POSTS; p++) {
                if (contains(set, p) && Integer.bitCount(rows[p] & set) != 2) {
                    return false;
                }
            }
            return parts(rows, set) == 1;
        }

        /** In how many parts a set hangs together by the lines within it. */
        static int parts(int[] rows, int set) {
            int parts = 0;
            int left = set;
            for (int p = 0; p < MOST_POSTS; p++) {
                if (contains(left, p)) {
                    left &= ~partOf(rows, set, p);
                    parts++;
                }
            }
            return parts;
        }

        static int partOf(int[] rows, int set, int post) {
            int part = 1 << post;
            for (int i = 0; i < MOST_POSTS; i++) {
                part |= touched(rows, part) & set;
            }
            return part;
        }

        static int greatestApart(int[] rows, int all) {
            int greatest = 0;
            for (int set = 0; set <= all && set < MOST_SETS; set++) {
                if (Integer.bitCount(set) > Integer.bitCount(greatest) && isApart(rows, set)) {
                    greatest = set;
                }
            }
            return greatest;
        }

        static int countApart(int[] rows, int all) {
            int count = 0;
            for (int set = 1; set <= all && set < MOST_SETS; set++) {
                count += bit(isApart(rows, set));
            }
            return count;
        }

        static int countAlike(int[] rows, int all) {
            int count = 0;
            for (int set = 1; set <= all && set < MOST_SETS; set++) {
                count += bit(isAlike(rows, set, all));
            }
            return count;
        }

        static int countRounds(int[] rows, int all) {
            int count = 0;
            for (int set = 1; set <= all && set < MOST_SETS; set++) {
                count += bit(isRound(rows, set));
            }
            return count;
        }
    }

    /** In how many ways an ordered network can be arrowed. */
    private static final class Modules {
        final boolean[] alike = new boolean[MOST_SETS];

        /**
         * The alike sets that no other one overlaps make a tree. Each of it is arrowed
         * by itself: one that falls apart has no lines of its own, one whose other
         * network falls apart puts these parts in any row, and all else has two ways.
         */
        int ways(Net net, Net opposite) {
            int all = net.everyPost();
            for (int set = 0; set <= all && set < MOST_SETS; set++) {
                alike[set] = Sets.isAlike(net.rows, set, all);
            }
            int ways = 1;
            for (int set = 1; set <= all && set < MOST_SETS; set++) {
                if (alike[set] && !isOverlapped(set, all)) {
                    ways *= ownWays(net, opposite, set);
                }
            }
            return ways;
        }

        boolean isOverlapped(int set, int all) {
            for (int by = 1; by <= all && by < MOST_SETS; by++) {
                if (alike[by] && (set & by) != 0 && (set & ~by) != 0 && (by & ~set) != 0) {
                    return true;
                }
            }
            return false;
        }

        static int ownWays(Net net, Net opposite, int set) {
            if (Sets.parts(net.rows, set) > 1 || Integer.bitCount(set) < 2) {
                return 1;
            }
            int oppositeParts = Sets.parts(opposite.rows, set);
            return oppositeParts == 1 ? 2 : factorial(oppositeParts);
        }

        static int factorial(int n) {
            int product = 1;
            for (int i = 2; i <= n && i <= MOST_POSTS; i++) {
                product *= i;
            }
            return product;
        }
    }

    /** The posts shared out among chains, or among colours. */
    private static final class Sharing {
        final int[] groups = new int[MOST_POSTS];
        final int[] groupOf = new int[MOST_POSTS];
        final int[] ways = new int[MOST_POSTS + 1];

        /** Finds the fewest chains that take all, and with which each post goes: how many. */
        int share(Net net) {
            int posts = Math.min(net.posts, MOST_POSTS);
            for (int chains = 0; chains < posts; chains++) {
                clearGroups();
                if (fill(net.rows, groups, groupOf, 0, posts, chains)) {
                    return chains;
                }
            }
            clearGroups();
            fill(net.rows, groups, groupOf, 0, posts, posts);
            return posts;
        }

        int groupOf(int post) {
            return groupOf[post];
        }

        void clearGroups() {
            for (int i = 0; i < MOST_POSTS; i++) {
                groups[i] = 0;
            }
        }

        private static boolean fill(int[] rows, int[] groups, int[] groupOf, int at, int posts, int chains) {
            if (at >= posts || at >= MOST_POSTS) {
                return true;
            }
            for (int g = 0; g < chains && g < MOST_POSTS; g++) {
                if ((groups[g] & ~rows[at]) == 0) {
                    groups[g] |= 1 << at;
                    groupOf[at] = g;
                    if (fill(rows, groups, groupOf, at + 1, posts, chains)) {
                        return true;
                    }
                    groups[g] &= ~(1 << at);
                }
                // Groups fill from 0 on: behind an empty one there are only such as it.
                if (groups[g] == 0) {
                    return false;
                }
            }
            return false;
        }

        /** Each way to part the posts in sets apart takes as many colours as it has sets. */
        int colourings(Net net, int colours) {
            clearGroups();
            for (int i = 0; i <= MOST_POSTS; i++) {
                ways[i] = 0;
            }
            part(net.rows, groups, ways, 0, Math.min(net.posts, MOST_POSTS), 0);
            int sum = 0;
            int choices = 1;
            for (int sets = 0; sets <= MOST_POSTS; sets++) {
                sum += choices * ways[sets];
                choices *= colours - sets;
            }
            return sum;
        }

        private static void part(int[] rows, int[] groups, int[] ways, int at, int posts, int used) {
            if (at >= posts || at >= MOST_POSTS) {
                ways[used]++;
                return;
            }
            for (int g = 0; g <= used && g < MOST_POSTS; g++) {
                if ((groups[g] & rows[at]) == 0) {
                    groups[g] |= 1 << at;
                    part(rows, groups, ways, at + 1, posts, g == used ? used + 1 : used);
                    groups[g] &= ~(1 << at);
                }
            }
        }
    }

    /** Ways to send the posts of a network to those of one with as many. */
    private static final class Sending {
        final int[] image = new int[MOST_POSTS];

        /** If there is one way, the others are that one behind each way that to is like itself. */
        int ways(Net from, Net to) {
            int posts = Math.min(from.posts, MOST_POSTS);
            if (from.posts != to.posts || !canSend(from.rows, to.rows, image, 0, posts, 0)) {
                return 0;
            }
            return waysToItself(from.rows, posts);
        }

        /**
         * Post by post: to how many posts it can go while those ahead of it stay. The
         * product of these is how many ways there are in all.
         */
        int waysToItself(int[] rows, int posts) {
            int ways = 1;
            for (int p = 0; p < posts; p++) {
                int targets = 0;
                int staying = (1 << p) - 1;
                for (int target = p; target < posts; target++) {
                    if (fits(rows, rows, image, p, target)) {
                        image[p] = target;
                        targets += bit(canSend(rows, rows, image, p + 1, posts, staying | 1 << target));
                    }
                }
                image[p] = p;
                ways *= targets;
            }
            return ways;
        }

        static boolean fits(int[] from, int[] to, int[] image, int at, int target) {
            for (int p = 0; p < at; p++) {
                if (contains(from[at], p) != contains(to[target], image[p])) {
                    return false;
                }
            }
            return true;
        }

        /** Whether the posts from at on can be sent, too, when those ahead of it have taken some. */
        private static boolean canSend(int[] from, int[] to, int[] image, int at, int posts, int taken) {
            if (at >= posts || at >= MOST_POSTS) {
                return true;
            }
            for (int target = 0; target < posts; target++) {
                if (!contains(taken, target) && fits(from, to, image, at, target)) {
                    image[at] = target;
                    if (canSend(from, to, image, at + 1, posts, taken | 1 << target)) {
                        return true;
                    }
                }
            }
            return false;
        }
    }
}
