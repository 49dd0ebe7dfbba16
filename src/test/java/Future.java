import java.util.ArrayList;
import java.util.List;

/** What a shop answers to fixed rows of calls, by which two shops that are not alike differ. */
final class Future {
    /** A call that answers a number. */
    interface Answer {
        long of();
    }

    private final List<Object> answers = new ArrayList<>();

    private Future() {
    }

    /** The answer of a call, or the name of the exception that it throws. */
    static Object answer(Answer call) {
        try {
            return call.of();
        } catch (RuntimeException thrown) {
            return thrown.getClass().getSimpleName();
        }
    }

    private void ask(Answer call) {
        answers.add(answer(call));
    }

    /** The answers if the shop goes on: its buffer, the next number, all that can be changed, minutes. */
    static List<Object> onwards(ForgeHeats shop) {
        Future future = new Future();
        future.ask(shop::digest);
        future.texts(shop);
        future.changes(shop);
        future.ask(() -> shop.pass(20));
        future.ask(shop::digest);
        future.ask(() -> shop.pass(100));
        future.ask(shop::digest);
        return future.answers;
    }

    /** The answers if all that was saved is undone, one state after the other. */
    static List<Object> backwards(ForgeHeats shop) {
        Future future = new Future();
        future.ask(shop::digest);
        // More often than states can be saved, so that the refusal behind the last one is seen too.
        for (int back = 0; back < 8; back++) {
            future.ask(shop::undo);
            future.ask(shop::digest);
        }
        future.ask(() -> shop.job(1, 1, 2, 30, false));
        future.ask(shop::digest);
        return future.answers;
    }

    private void texts(ForgeHeats shop) {
        ask(shop::firstError);
        ask(shop::addAll);
        ask(() -> shop.append('1'));
        ask(shop::clearBuffer);
        for (char code : "2d3h1".toCharArray()) {
            ask(() -> shop.append(code));
        }
        ask(shop::addAll);
    }

    private void changes(ForgeHeats shop) {
        ask(() -> shop.job(2, 0, 3, 40, true));
        ask(() -> shop.rush(shop.jobOf(1, 0), true));
        ask(() -> shop.cancel(shop.jobOf(0, 0)));
        for (int number = 0; number < 4; number++) {
            int which = number;
            ask(() -> shop.stock(which, 3));
            ask(() -> shop.range(which, 800, 1000));
            ask(() -> shop.die(which, 2, 20));
        }
        ask(() -> shop.grind(4));
        ask(() -> shop.set(2, 2));
    }
}
