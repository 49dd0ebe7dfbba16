import java.lang.reflect.InvocationTargetException;
import java.lang.reflect.Method;
import java.util.ArrayList;
import java.util.List;

/**
 * "If several exceptions apply, the one that is named first in the throws clause is thrown", and "A call that
 * throws an exception changes nothing": each call with every mix of its parameters' last right and first wrong
 * values, and of values far away, on shops in which it is refused for their state, too.
 */
public final class EveryMixTest {
    private static final Check CHECK = new Check("EveryMixTest");
    private static final int LOW = Integer.MIN_VALUE;
    private static final int HIGH = Integer.MAX_VALUE;
    private static final int[] HEATS = {LOW, -1, 0, 3, 4, HIGH};
    private static final int[] DIES = {LOW, -1, 0, 1, 4, 5, HIGH};
    private static final int[] NUMBERS = {LOW, -1, 0, 1, 9, 10, HIGH};
    private static final int[] MINUTES = {LOW, -1, 0, 1, 120, 121, 240, 241, HIGH};
    private static final int[] TEMPERATURES = {LOW, 599, 600, 900, 1100, 1240, 1241, HIGH};
    private static final int[] WHATS = {LOW, -1, 0, 3, 4, 5, 6, 7, 8, 11, 12, HIGH};
    private static final int[] HASTE = {0, 1};
    private static final int CALLS = 500;

    /** A method of the face, and the values of each of its parameters. */
    private record Calls(String name, int[]... values) {
        int mixes() {
            int mixes = 1;
            for (int[] each : values) {
                mixes *= each.length;
            }
            return mixes;
        }
    }

    private static final List<Calls> ALL = List.of(
        new Calls("stock", HEATS, new int[] {LOW, -1, 0, 1, 99, 100, HIGH}),
        new Calls("range", HEATS, TEMPERATURES, TEMPERATURES),
        new Calls("die", DIES, new int[] {LOW, 0, 1, 9, 10, HIGH}, new int[] {LOW, 9, 10, 300, 301, HIGH}),
        new Calls("grind", DIES),
        new Calls("job", new int[] {-1, 0, 4, 5}, new int[] {-1, 0, 3, 4}, new int[] {LOW, 0, 1, 40, 41, HIGH},
            new int[] {LOW, -1, 0, 9999, 10000, HIGH}, HASTE),
        new Calls("cancel", NUMBERS),
        new Calls("rush", NUMBERS, HASTE),
        new Calls("set", HEATS, new int[] {LOW, -1, 0, 1, 3, 4, 9, 10, 30, 31, 200, 201, 300, 301, HIGH}),
        new Calls("pass", MINUTES),
        new Calls("append", new int[] {LOW, -1, 0, 32, 33, 126, 127, 65569, HIGH}),
        new Calls("clearBuffer"),
        new Calls("firstError"),
        new Calls("addAll"),
        new Calls("undo"),
        new Calls("heat", HEATS, WHATS),
        new Calls("dieOf", DIES, WHATS),
        new Calls("jobOf", NUMBERS, WHATS),
        new Calls("billet", WHATS, WHATS),
        new Calls("count", WHATS),
        new Calls("setting", HEATS),
        new Calls("ifPassed", MINUTES, WHATS),
        new Calls("doneIn", NUMBERS),
        new Calls("ifRush", NUMBERS),
        new Calls("bestReheats", MINUTES),
        new Calls("saved"),
        new Calls("digest"));

    /** A shop, and the model with which it is compared, behind the same calls. */
    private static final class Pair {
        final ForgeHeats shop = new ForgeHeats();
        final Model model = new Model();
        int calls;

        /** Makes the call on both, compares what they answer, and returns whether it was refused. */
        boolean same(String name, Object... arguments) {
            calls++;
            Object got = answer(shop, name, arguments);
            Object due = answer(model, name, arguments);
            CHECK.alike(name + List.of(arguments), List.of(got), List.of(due));
            return due instanceof Class<?>;
        }
    }

    /** What the call answers, or the class of the exception that it throws. */
    private static Object answer(Object target, String name, Object... arguments) {
        for (Method method : target.getClass().getDeclaredMethods()) {
            if (method.getName().equals(name) && method.getParameterCount() == arguments.length) {
                try {
                    return method.invoke(target, arguments);
                } catch (InvocationTargetException thrown) {
                    return thrown.getCause().getClass();
                } catch (IllegalAccessException hidden) {
                    throw new IllegalStateException(hidden);
                }
            }
        }
        throw new IllegalArgumentException(name);
    }

    // ---- the shops

    private static Pair fresh() {
        return new Pair();
    }

    /** Ten jobs, a full furnace, a billet on the press, a full stock, a die being ground, a full buffer. */
    private static Pair full() {
        Pair pair = new Pair();
        for (int number = 0; number < 10; number++) {
            pair.same("job", 1, 0, 40, number, false);
        }
        pair.same("stock", 0, 99);
        pair.same("pass", 10);
        pair.same("stock", 0, 99);
        pair.same("stock", 0, 9);
        pair.same("stock", 3, 99);
        pair.same("stock", 3, 99);
        pair.same("stock", 3, 2);
        pair.same("grind", 0);
        write(pair, "1d0h0;1d0h0;1d0h0;1d0h0;1d0h0;1d0h0;1d0h0;1d0h0;1d0h0;1d0h0!");
        CHECK.same("ten jobs", pair.shop.count(1), 10);
        CHECK.same("a full furnace", pair.shop.count(3), 6);
        CHECK.same("a billet on the press", pair.shop.billet(6, 0), 0);
        CHECK.same("a full stock", pair.shop.heat(3, 0), 200);
        return pair;
    }

    /** As the full one, but with a text that is no jobs. */
    private static Pair fullOfWrongText() {
        Pair pair = full();
        pair.same("clearBuffer");
        write(pair, "x".repeat(60));
        return pair;
    }

    /** No minute is left; job 0 is gone with its piece, and job 1 is there. */
    private static Pair last() {
        Pair pair = new Pair();
        pair.same("job", 0, 0, 1, 0, true);
        pair.same("stock", 0, 1);
        for (int left = 9999; left > 0; left -= 120) {
            pair.same("pass", Math.min(left, 120));
        }
        pair.same("job", 1, 1, 1, 0, true);
        CHECK.same("no minute is left", pair.shop.count(0), 9999);
        CHECK.same("job 0 is gone", pair.shop.count(7), 1);
        return pair;
    }

    private static void write(Pair pair, String text) {
        for (char each : text.toCharArray()) {
            pair.same("append", (int) each);
        }
    }

    private interface Maker {
        Pair make();
    }

    // ---- the mixes

    private static void everyMix(Maker maker) {
        Pair pair = maker.make();
        for (Calls calls : ALL) {
            for (int mix = 0; mix < calls.mixes(); mix++) {
                if (pair.calls + 4 > CALLS) {
                    pair = maker.make();
                }
                if (!isRefused(pair, calls.name(), argumentsOf(calls, mix))) {
                    // What is not refused may change the shop, and each mix is to be tried on the same one.
                    pair = maker.make();
                }
            }
        }
    }

    private static Object[] argumentsOf(Calls calls, int mix) {
        List<Object> arguments = new ArrayList<>();
        int rest = mix;
        for (int[] values : calls.values()) {
            int value = values[rest % values.length];
            rest /= values.length;
            arguments.add(values == HASTE ? (Object) (value == 1) : (Object) value);
        }
        return arguments.toArray();
    }

    /** Makes the call on both, and sees that nothing is changed if it is refused. */
    private static boolean isRefused(Pair pair, String name, Object[] arguments) {
        long before = pair.shop.digest();
        pair.calls++;
        boolean isRefused = pair.same(name, arguments);
        if (isRefused) {
            pair.calls++;
            CHECK.same(name + List.of(arguments) + " changes nothing", pair.shop.digest(), before);
        }
        return isRefused;
    }

    public static void main(String[] args) {
        everyMix(EveryMixTest::fresh);
        everyMix(EveryMixTest::full);
        everyMix(EveryMixTest::fullOfWrongText);
        everyMix(EveryMixTest::last);
        CHECK.end();
    }
}
