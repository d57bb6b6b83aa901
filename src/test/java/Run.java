import java.lang.reflect.InvocationTargetException;
import java.lang.reflect.Method;
import java.nio.charset.StandardCharsets;
import java.util.NoSuchElementException;

/** A run of calls on one object, each with the answer that is due (a boolean counts 1 or 0). */
final class Run {
    /** What is due where a call throws NoSuchElementException. */
    static final long THROWS = Long.MIN_VALUE;
    static final long OTHER_EXCEPTION = Long.MIN_VALUE + 1;

    private static int wrong;
    private static int calls;

    private final String name;
    final NewsCows cows = new NewsCows();

    Run(String name) {
        this.name = name;
    }

    /** The tape becomes this text. */
    Run tape(String text) {
        return tape(text.getBytes(StandardCharsets.ISO_8859_1));
    }

    Run tape(int... values) {
        byte[] bytes = new byte[values.length];
        for (int k = 0; k < values.length; k++) {
            bytes[k] = (byte) values[k];
        }
        return tape(bytes);
    }

    Run tape(byte[] bytes) {
        cows.end(0);
        for (int from = 0; from < bytes.length; from += 20) {
            int[] numbers = new int[5];
            for (int k = 0; k < 20 && from + k < bytes.length; k++) {
                numbers[k / 4] |= (bytes[from + k] & 255) << 24 - k % 4 * 8;
            }
            cows.feed(numbers[0], numbers[1], numbers[2], numbers[3], numbers[4]);
        }
        if (!cows.end(bytes.length)) {
            throw new IllegalStateException("a text of " + bytes.length + " bytes does not fit on the tape");
        }
        return this;
    }

    Run due(long want, String call, int... args) {
        calls++;
        long got = answer(cows, call, args);
        if (got != want) {
            wrong++;
            System.out.println(name + ": " + written(call, args) + " answered " + shown(got) + ", due is " + shown(want));
        }
        return this;
    }

    /** A text and the place and kind of its FAULT. */
    Run faulty(int kind, int place, String call, String text, int... args) {
        tape(text);
        long base = call.equals("book") ? -2 : -1;
        due(base - place, call, args);
        due(kind, "fault");
        return due(0, "count", 5);
    }

    static String written(String call, int... args) {
        StringBuilder text = new StringBuilder(call).append('(');
        for (int k = 0; k < args.length; k++) {
            text.append(k == 0 ? "" : ", ").append(args[k]);
        }
        return text.append(')').toString();
    }

    static String shown(long answer) {
        if (answer == THROWS) {
            return "throws.NoSuchElementException";
        }
        return answer == OTHER_EXCEPTION ? "another exception" : Long.toString(answer);
    }

    static long answer(Object target, String call, int... args) {
        for (Method method : target.getClass().getDeclaredMethods()) {
            if (method.getName().equals(call) && method.getParameterCount() == args.length) {
                return answer(target, method, args);
            }
        }
        throw new IllegalStateException("no method " + written(call, args));
    }

    private static long answer(Object target, Method method, int... args) {
        Object[] values = new Object[args.length];
        for (int k = 0; k < args.length; k++) {
            values[k] = args[k];
        }
        try {
            Object got = method.invoke(target, values);
            return got instanceof Boolean ? ((Boolean) got ? 1 : 0) : (Integer) got;
        } catch (InvocationTargetException e) {
            if (e.getCause().getClass() == NoSuchElementException.class) {
                return THROWS;
            }
            e.getCause().printStackTrace(System.out);
            return OTHER_EXCEPTION;
        } catch (IllegalAccessException e) {
            throw new IllegalStateException(e);
        }
    }

    static void fail(String text) {
        wrong++;
        System.out.println(text);
    }

    static void finish() {
        System.out.println(wrong == 0 ? "all of " + calls + " answers are as due" : wrong + " answers are not as due");
        if (wrong != 0) {
            System.exit(1);
        }
    }
}
