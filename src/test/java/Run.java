import java.lang.reflect.InvocationTargetException;
import java.lang.reflect.Method;
import java.nio.charset.StandardCharsets;
import java.util.NoSuchElementException;

/** A run of calls on one object, each with the answer that is due (a boolean counts 1 or 0). */
final class Run {
    /** What is due where a call throws NoSuchElementException. */
    static final long THROWS = Long.MIN_VALUE;
    static final long OTHER_EXCEPTION = Long.MIN_VALUE + 1;
    /** What an object answers behind so many calls is free, so no test may ask for it. */
    private static final int CALLS_OF_AN_OBJECT = 512;

    private static int wrong;
    private static int calls;

    private final String name;
    final NewsCows cows = new NewsCows();
    private int made;

    Run(String name) {
        this.name = name;
    }

    /** The tape becomes this text. */
    Run tape(String text) {
        return tape(text.getBytes(StandardCharsets.ISO_8859_1));
    }

    Run tape(int... values) {
        byte[] bytes = new byte[values.length];
        for (int k = 0; k < values.length; k++) {
            bytes[k] = (byte) values[k];
        }
        return tape(bytes);
    }

    Run tape(byte[] bytes) {
        made += 2 + (bytes.length + 19) / 20;
        cows.end(0);
        for (int from = 0; from < bytes.length; from += 20) {
            int[] numbers = new int[5];
            for (int k = 0; k < 20 && from + k < bytes.length; k++) {
                numbers[k / 4] |= (bytes[from + k] & 255) << 24 - k % 4 * 8;
            }
            cows.feed(numbers[0], numbers[1], numbers[2], numbers[3], numbers[4]);
        }
        if (!cows.end(bytes.length)) {
            throw new IllegalStateException("a text of " + bytes.length + " bytes does not fit on the tape");
        }
        return this;
    }

    Run due(long want, String call, int... args) {
        calls++;
        made++;
        if (made > CALLS_OF_AN_OBJECT) {
            throw new IllegalStateException(name + ": more calls of one object than are promised");
        }
        long got = answer(cows, call, args);
        if (got != want) {
            wrong++;
            System.out.println(name + ": " + written(call, args) + " answered " + shown(got) + ", due is " + shown(want));
        }
        return this;
    }

    /** A text and the place and kind of its FAULT. */
    Run faulty(int kind, int place, String call, String text, int... args) {
        tape(text);
        long base = call.equals("book") ? -2 : -1;
        due(base - place, call, args);
        due(kind, "fault");
        return due(0, "count", 5);
    }

    /** A text in which ^ stands ahead of its FAULT. */
    Run fault(int kind, String call, String marked, int... args) {
        int place = marked.indexOf('^');
        if (place < 0) {
            throw new IllegalStateException(name + ": no place is marked in " + marked);
        }
        return faulty(kind, place, call, marked.substring(0, place) + marked.substring(place + 1), args);
    }

    /** A text without a FAULT. */
    Run whole(long want, String call, String text, int... args) {
        return tape(text).due(want, call, args).due(0, "fault").due(0, "count", 5);
    }

    /** How many calls more the object is promised for. */
    int left() {
        return CALLS_OF_AN_OBJECT - made;
    }

    /** DAYS go by till it is this one. */
    Run till(int day) {
        for (int left = day - cows.now(0); left > 0; left -= 60) {
            due(Math.min(60, left), "days", Math.min(60, left));
        }
        return due(day, "now", 0);
    }

    static String written(String call, int... args) {
        StringBuilder text = new StringBuilder(call).append('(');
        for (int k = 0; k < args.length; k++) {
            text.append(k == 0 ? "" : ", ").append(args[k]);
        }
        return text.append(')').toString();
    }

    static String shown(long answer) {
        if (answer == THROWS) {
            return "throws.NoSuchElementException";
        }
        return answer == OTHER_EXCEPTION ? "another exception" : Long.toString(answer);
    }

    static long answer(Object target, String call, int... args) {
        for (Method method : target.getClass().getDeclaredMethods()) {
            if (method.getName().equals(call) && method.getParameterCount() == args.length) {
                return answer(target, method, args);
            }
        }
        throw new IllegalStateException("no method " + written(call, args));
    }

    private static long answer(Object target, Method method, int... args) {
        Object[] values = new Object[args.length];
        for (int k = 0; k < args.length; k++) {
            values[k] = args[k];
        }
        try {
            Object got = method.invoke(target, values);
            return got instanceof Boolean ? ((Boolean) got ? 1 : 0) : (Integer) got;
        } catch (InvocationTargetException e) {
            if (e.getCause().getClass() == NoSuchElementException.class) {
                return THROWS;
            }
            e.getCause().printStackTrace(System.out);
            return OTHER_EXCEPTION;
        } catch (IllegalAccessException e) {
            throw new IllegalStateException(e);
        }
    }

    /** Two looks that must tell the same. */
    static void alike(String name, String want, String got) {
        calls++;
        if (!want.equals(got)) {
            fail(name + ":\n  due is   " + want + "\n  there is " + got);
        }
    }

    static void fail(String text) {
        wrong++;
        System.out.println(text);
    }

    static void finish() {
        System.out.println(wrong == 0 ? "all of " + calls + " answers are as due" : wrong + " answers are not as due");
        if (wrong != 0) {
            System.exit(1);
        }
    }
}
