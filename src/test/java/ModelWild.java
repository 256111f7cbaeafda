import java.lang.reflect.InvocationTargetException;
import java.lang.reflect.Method;
import java.lang.reflect.Modifier;
import java.util.Arrays;

/**
 * Every call of the face with every row of numbers far out and near, in networks of each
 * sort: ArrowOrders must answer as Model does, and never throw.
 */
public final class ModelWild {
    private static final int[] WILD = {
        Integer.MIN_VALUE, Integer.MIN_VALUE + 1, -256, -64, -33, -32, -31, -8, -2, -1, 0, 1, 2, 3, 4, 5, 6, 7, 8, 9, 10, 11, 15, 16, 28,
        31, 32, 33, 40, 41, 63, 64, 65, 127, 128, 255, 256, 2000, 40320, 1 << 30, Integer.MAX_VALUE - 1, Integer.MAX_VALUE
    };
    /** Fewer, for calls with four numbers. */
    private static final int[] WILD_OF_FOUR = {Integer.MIN_VALUE, -32, -8, -1, 0, 1, 2, 4, 7, 8, 32, 33, 64, Integer.MAX_VALUE};
    private static final String[] TEXTS = {
        "", "posts;", "posts a;", "posts a b;way a b;", "posts a b c d e;way a b c d e a;", "posts a b c d e f;way a b c d e f a;",
        "posts a b c d e f g h;heap a b c d e f g h;", "posts a b c d e f g h;way b a c;heap d e f;way a h b;"
    };
    private static final int CALLS_OF_AN_OBJECT = 400;

    private final String text;
    private ArrowOrders x;
    private Model m;
    private int left = 0;

    private ModelWild(String text) {
        this.text = text;
    }

    public static void main(String[] args) throws Exception {
        for (String text : TEXTS) {
            ModelWild wild = new ModelWild(text);
            for (Method call : ArrowOrders.class.getDeclaredMethods()) {
                if (Modifier.isPublic(call.getModifiers()) && call.getParameterCount() < 5) {
                    Method like = Model.class.getDeclaredMethod(call.getName(), call.getParameterTypes());
                    wild.all(call, like, new Object[call.getParameterCount()], 0);
                }
            }
        }
        feedWild();
        Calls.close();
    }

    private void all(Method call, Method like, Object[] numbers, int at) throws Exception {
        if (at == numbers.length) {
            one(call, like, numbers);
            return;
        }
        for (int wild : numbers.length == 4 ? WILD_OF_FOUR : WILD) {
            if (numbers.length != 3 || at > 0 || Math.abs((long) wild) < 65) {
                numbers[at] = wild;
                all(call, like, numbers, at + 1);
            }
        }
    }

    private void one(Method call, Method like, Object[] numbers) throws Exception {
        if (left == 0) {
            renew();
        }
        left--;
        String told = text + " " + call.getName() + Arrays.toString(numbers);
        try {
            Calls.due(told, answer(call.invoke(x, numbers)), answer(like.invoke(m, numbers)));
        } catch (InvocationTargetException e) {
            Calls.due(told + " threw " + e.getCause(), 1, 0);
            left = 0;
        }
    }

    private static long answer(Object told) {
        return told instanceof Boolean ? (Boolean) told ? 1 : 0 : (Integer) told;
    }

    private void renew() {
        x = new ArrowOrders();
        m = new Model();
        left = CALLS_OF_AN_OBJECT;
        byte[] all = Calls.bytes(text);
        for (int from = 0; from < all.length; from += 20) {
            int[] w = Calls.words(all, from);
            x.feed(w[0], w[1], w[2], w[3], w[4]);
            m.feed(w);
        }
        Calls.due("read() of " + text, x.read(), m.read());
        x.hold(1);
        m.hold(1);
    }

    private static void feedWild() {
        for (int at = 0; at < 5; at++) {
            for (int wild : WILD) {
                ArrowOrders x = new ArrowOrders();
                Model m = new Model();
                int[] w = {0x20202020, 0x20202020, 0x20202020, 0x20202020, 0x20202020};
                w[at] = wild;
                Calls.due("feed", x.feed(w[0], w[1], w[2], w[3], w[4]), m.feed(w));
                Calls.due("read() of " + wild, x.read(), m.read());
                Calls.due("place() of " + wild, x.place(), m.place());
            }
        }
    }
}
