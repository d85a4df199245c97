import java.lang.reflect.InvocationTargetException;
import java.lang.reflect.Method;
import java.util.HashMap;
import java.util.Map;

/** Every call with numbers at, beside and far from every bound, answer by answer, against Plain; none may throw. */
public final class ExtremesTest {
    private static final int LOW = Integer.MIN_VALUE;
    private static final int HIGH = Integer.MAX_VALUE;
    /** With all that a bound of the document names, those beside them, and some whose sums or products wrap around. */
    private static final long[] EDGES = {LOW, LOW + 1, -(1 << 29), -1001, -1000, -104, -103, -102, -101, -51, -50, -2, -1,
        0, 1, 2, 3, 4, 5, 6, 7, 8, 9, 10, 11, 12, 13, 15, 16, 17, 18, 19, 20, 23, 24, 28, 29, 30, 31, 47, 48, 49, 50, 51,
        98, 99, 100, 126, 127, 128, 199, 200, 201, 998, 999, 1000, 1999, 2000, 2001, 1 << 29, (1 << 29) + 1, 1 << 30,
        HIGH - 10, HIGH - 1, HIGH};
    private static final long[] FEW = {LOW, -(1 << 29), -2, -1, 0, 1, 2, 3, 4, 7, 8, 1 << 29, HIGH};
    private static final long[] WORDS = {0, 1, -1, Long.MIN_VALUE, Long.MAX_VALUE, 0x7EL, 0x7FL, 0x80L, 0xFFL, 0x0100L, 0x0101L,
        0x7E7E7E7E7E7E7E7EL, 0x7F7E7E7E7E7E7E7EL, 0x017E7E7E7E7E7E7EL, 0x0001010101010101L, 0x0100010101010101L, 2, 4, 8,
        0x0E, 0x0D00, 0x0B0000, 0x07000000, 0x01010806L, 0x06, 1L << 32, 1L << 39, 1L << 56, 0x7FL << 56};
    private static final int CALLS_OF_AN_OBJECT = 400;
    private static final Check check = new Check("ExtremesTest");
    private static final Map<String, Method> FACE = methodsOf(WagonWays.class);
    private static final Map<String, Method> PLAIN = methodsOf(Plain.class);

    private final int yards;
    private WagonWays x;
    private Plain plain;
    private int calls;

    private ExtremesTest(int yards) {
        this.yards = yards;
        begin();
    }

    public static void main(String[] args) throws ReflectiveOperationException {
        for (int yards : new int[] {0, 2, 4, 5, 8}) {
            new ExtremesTest(yards).run();
        }
        check.end();
    }

    private static Map<String, Method> methodsOf(Class<?> c) {
        Map<String, Method> found = new HashMap<>();
        for (Method m : c.getDeclaredMethods()) {
            found.put(m.getName() + "/" + m.getParameterCount(), m);
        }
        return found;
    }

    /** A new object, on which something is set unless there are to be no yards told. */
    private void begin() {
        x = new WagonWays();
        plain = new Plain();
        calls = 0;
        if (yards == 0) {
            return;
        }
        call("land", yards);
        String[] texts = {"A>B:B", "B>A:A/9", "A>B:B/6", yards > 2 ? "A>C:C" : "B>A:A", yards > 2 ? "C>B:AB" : "B>A:A/1"};
        for (String text : texts) {
            call("letters", Check.word(text));
            call("block");
        }
        call("train", 0, 2, 127, 0, 48, 12);
        call("train", 1, -1, 85, 23, 1, 1);
        for (int i = 0; i < 5; i++) {
            call("wagon", i % 2, 1 - i % 2);
            call("roll", 15 - 4 * i % 16);
        }
        call("pass", 30);
        call("load", 0, 1, 99);
        call("load", 1, 0, 1);
        call("empties", 0, 0, 50);
        call("empties", 1, 2, -50);
        call("leg", 99, 9);
        call("leg", 1, 0);
        call("letters", Check.word("A>B:"));
    }

    private void run() {
        for (String none : new String[] {"blank", "good", "block", "lost", "drive", "least", "stay", "digest"}) {
            call(none);
            call(none);
        }
        for (String one : new String[] {"land", "sorting", "pass", "rest", "crews", "roll", "number", "steps", "net", "promise", "count"}) {
            for (long v : EDGES) {
                ask(one, v);
            }
        }
        for (String word : new String[] {"letters", "cost"}) {
            for (long w : WORDS) {
                ask(word, w);
            }
        }
        runTwo();
        runThree();
        runTrain();
    }

    private void runTwo() {
        String[] two = {"far", "about", "goes", "wagon", "wagonIs", "trainIs", "yard", "tracks", "price", "leg", "share", "change"};
        for (String name : two) {
            for (long a : EDGES) {
                for (long b : EDGES) {
                    ask(name, a, b);
                }
            }
        }
    }

    private void runThree() {
        for (String name : new String[] {"miles", "way", "close", "stands", "load", "empties"}) {
            for (long a : FEW) {
                for (long b : FEW) {
                    for (long v : EDGES) {
                        ask(name, a, b, v);
                    }
                }
            }
        }
        for (long from : EDGES) {
            for (long to : EDGES) {
                ask("close", 0, from, to);
            }
        }
    }

    private void runTrain() {
        for (int one = 0; one < 6; one++) {
            for (int two = one + 1; two < 6; two++) {
                for (long v : EDGES) {
                    for (long w : FEW) {
                        long[] args = {0, -1, 1, 0, 1, 1};
                        args[one] = v;
                        args[two] = w;
                        ask("train", args);
                    }
                }
            }
        }
    }

    /** A call on an object that is new every now and then, since one is not used for ever. */
    private void ask(String name, long... args) {
        if (calls >= CALLS_OF_AN_OBJECT) {
            call("digest");
            begin();
        }
        call(name, args);
    }

    private void call(String name, long... args) {
        calls++;
        String key = name + "/" + args.length;
        check.due(told(name, args), answer(x, FACE.get(key), args), answer(plain, PLAIN.get(key), args));
    }

    private String told(String name, long[] args) {
        StringBuilder text = new StringBuilder(yards + " yards: " + name);
        for (long arg : args) {
            text.append(' ').append(arg);
        }
        return text.toString();
    }

    private static long answer(Object on, Method m, long[] args) {
        Object[] given = new Object[args.length];
        for (int i = 0; i < args.length; i++) {
            if (m.getParameterTypes()[i] == long.class) {
                given[i] = args[i];
            } else {
                given[i] = (int) args[i];
            }
        }
        try {
            return ((Number) m.invoke(on, given)).longValue();
        } catch (InvocationTargetException e) {
            throw new IllegalStateException(m + " threw", e.getCause());
        } catch (IllegalAccessException e) {
            throw new IllegalStateException(e);
        }
    }
}
