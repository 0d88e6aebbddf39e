import java.lang.reflect.InvocationTargetException;
import java.lang.reflect.Method;
import java.util.Map;
import java.util.NoSuchElementException;
import java.util.TreeMap;

/** What the tests of promises share: answers that are due, boards told as texts, calls that leave all as it was. */
class Bench {
    /** Stands for an answer that is a NoSuchElementException. */
    static final int THROWN = 987654321;
    static final int NONE = NinetyLamps.NONE;
    static final long WHOLE = 27720;
    /** Six lamps of 2 volts: 0>1, 1>0, 1>2, 2>1, 0>2, 2>0. */
    static final String SIX = "w3;0>1*2;1>0*2;1>2*2;2>1*2;0>2*2;2>0*2";

    interface Maker {
        NinetyLamps make();
    }

    interface Call {
        long on(NinetyLamps x);
    }

    static int wrong = 0;
    static String test = "";

    static void due(String what, long got, long want) {
        if (got != want) {
            wrong++;
            System.out.println(test + ": " + what + " answered " + got + ", due is " + want);
        }
    }

    static void due(String what, boolean got, boolean want) {
        due(what, got ? 1 : 0, want ? 1 : 0);
    }

    /** Runs every method named after a promise or after the terms, so that none can be forgotten. */
    static void runTests(Class<?> type) {
        Map<String, Method> tests = new TreeMap<>();
        for (Method method : type.getDeclaredMethods()) {
            if (method.getName().startsWith("promise") || method.getName().startsWith("terms")) {
                tests.put(method.getName(), method);
            }
        }
        for (Method method : tests.values()) {
            test = method.getName();
            try {
                method.invoke(null);
            } catch (InvocationTargetException e) {
                wrong++;
                System.out.println(test + " ended with " + e.getCause());
            } catch (IllegalAccessException e) {
                throw new AssertionError(e);
            }
        }
        boolean good = wrong == 0 && !tests.isEmpty();
        System.out.println(good ? tests.size() + " tests passed" : wrong + " answers are not as due");
        System.exit(good ? 0 : 1);
    }

    /** The row is just these numbers. */
    static void row(NinetyLamps x, long... numbers) {
        due("count(7)", x.count(7), numbers.length);
        for (int k = 0; k < numbers.length; k++) {
            due("row(" + k + ")", rowOf(x, k), numbers[k]);
        }
        due("row behind its end", rowOf(x, numbers.length), THROWN);
    }

    static long rowOf(NinetyLamps x, int k) {
        try {
            return x.row(k);
        } catch (NoSuchElementException e) {
            return THROWN;
        }
    }

    static long lampOf(NinetyLamps x, int lamp, int what) {
        try {
            return x.lamp(lamp, what);
        } catch (NoSuchElementException e) {
            return THROWN;
        }
    }

    static long faultOf(NinetyLamps x, int fault, int what) {
        try {
            return x.fault(fault, what);
        } catch (NoSuchElementException e) {
            return THROWN;
        }
    }

    static long bit(boolean answer) {
        return answer ? 1 : 0;
    }

    static void write(NinetyLamps x, String text) {
        x.end(0);
        for (int k = 0; k < text.length(); k += 4) {
            int v = 0;
            for (int n = 0; n < 4; n++) {
                v = v << 8 | (k + n < text.length() ? text.charAt(k + n) : 0);
            }
            x.sign(v);
        }
        if (!x.end(text.length())) {
            throw new AssertionError("the text is too long: " + text);
        }
    }

    static int tell(NinetyLamps x, String text) {
        write(x, text);
        return x.board();
    }

    static NinetyLamps with(String... texts) {
        NinetyLamps x = new NinetyLamps();
        for (String text : texts) {
            if (tell(x, text) < 0) {
                throw new AssertionError("not a board: " + text);
            }
        }
        return x;
    }

    /** What the answer to this text is on a new object. */
    static int answerTo(String text) {
        return tell(new NinetyLamps(), text);
    }

    /** Many lamps 0>1 of a volt, twelve a text, since an object has but 512 calls. */
    static NinetyLamps addLamps(NinetyLamps x, int many) {
        for (int left = many; left > 0; left -= 12) {
            tell(x, "0>1*1" + ";0>1*1".repeat(Math.min(left, 12) - 1));
        }
        return x;
    }

    static void see(NinetyLamps x, int many) {
        for (int k = 0; k < many; k++) {
            x.seen(0, 0, 0);
        }
    }

    /** An object with something in every place that a call could change by mistake. */
    static NinetyLamps rich() {
        NinetyLamps x = with("w5;r1,0;r2,3;0>1*1;1>2*2;2>0*1;0>3*3;3>4*1;4>0*2");
        x.set(0, 9);
        x.set(1, 3);
        x.set(2, 2);
        x.put(9, 2);
        for (int i = 0; i < 4; i++) {
            x.picture(i, 5 + 7 * i);
        }
        x.seen(1, 2, 1);
        x.seen(2, 4, 2);
        x.keep(0);
        x.swap(1, 4);
        x.picture(2, 3);
        x.put(17, 4);
        x.seen(8, 16, 16);
        x.keep(1);
        tell(x, "2>4*4;r0,2");
        x.swap(0, 6);
        x.picture(1, 65);
        x.put(1, 22);
        x.forget();
        x.seen(1, 16, 8);
        x.test(1, 2);
        x.test(8, 16);
        x.test(5, 26);
        x.light(3);
        write(x, "1>0*4");
        return x;
    }

    /** The call has this answer, and all that can be seen of the object is as if it had not been. */
    static void leaves(String what, Maker maker, Call call, long answer) {
        for (int part = 0; part < Portrait.PARTS; part++) {
            NinetyLamps left = maker.make();
            NinetyLamps called = maker.make();
            due(what, call.on(called), answer);
            String before = Portrait.of(left, part);
            String after = Portrait.of(called, part);
            if (!before.equals(after)) {
                wrong++;
                System.out.println(test + ": " + what + " changed\n  " + before + "\nto\n  " + after);
            }
        }
    }

    static void leaves(String what, Call call, long answer) {
        leaves(what, Bench::rich, call, answer);
    }

    /** The text can't be told: it is empty then, and nothing else has changed. */
    static void refusesText(String text, Maker maker, long answer) {
        leaves("board() of " + text, () -> {
            NinetyLamps x = maker.make();
            x.end(0);
            return x;
        }, x -> tell(x, text), answer);
    }
}
