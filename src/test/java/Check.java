import java.util.List;
import java.util.function.Consumer;
import java.util.function.Supplier;

/** Counts the answers of a test that are not as due, and ends the test. */
final class Check {
    /** A call of the class under test, whose answer is not needed. */
    interface Call {
        void run();
    }

    static final Class<IndexOutOfBoundsException> PLACE = IndexOutOfBoundsException.class;
    static final Class<IllegalArgumentException> ARGUMENT = IllegalArgumentException.class;
    static final Class<IllegalStateException> STATE = IllegalStateException.class;

    private final String test;
    private int checks;
    private int wrong;

    Check(String test) {
        this.test = test;
    }

    void same(String what, long got, long want) {
        checks++;
        if (got != want) {
            tell(what + " answered " + got + ", due is " + want);
        }
    }

    void same(String what, double got, double want) {
        checks++;
        if (Double.compare(got, want) != 0) {
            tell(what + " answered " + got + ", due is " + want);
        }
    }

    /** The call must throw exactly this exception, and change nothing that can be seen. */
    void refused(String what, ForgeHeats shop, Class<? extends RuntimeException> due, Call call) {
        long before = shop.digest();
        thrown(what, due, call);
        if (shop.digest() != before) {
            tell(what + " changed the shop, though it was refused");
        }
    }

    /** The call must throw exactly this exception, and all calls behind it answer as if it had not been made. */
    void asIfNotMade(String what, Supplier<ForgeHeats> maker, Class<? extends RuntimeException> due,
            Consumer<ForgeHeats> call) {
        ForgeHeats onwards = maker.get();
        ForgeHeats backwards = maker.get();
        thrown(what, due, () -> call.accept(onwards));
        thrown(what, due, () -> call.accept(backwards));
        alike(what + " (refused), then onwards", Future.onwards(onwards), Future.onwards(maker.get()));
        alike(what + " (refused), then undone", Future.backwards(backwards), Future.backwards(maker.get()));
    }

    /** The call must leave the shop, and all that was saved of it, as it was. */
    void changesNothing(String what, Supplier<ForgeHeats> maker, Consumer<ForgeHeats> call) {
        ForgeHeats onwards = maker.get();
        ForgeHeats backwards = maker.get();
        call.accept(onwards);
        call.accept(backwards);
        alike(what + ", then onwards", Future.onwards(onwards), Future.onwards(maker.get()));
        alike(what + ", then undone", Future.backwards(backwards), Future.backwards(maker.get()));
    }

    /** The call must throw exactly this exception. */
    void thrown(String what, Class<? extends RuntimeException> due, Call call) {
        checks++;
        try {
            call.run();
            tell(what + " threw nothing, due is " + due.getSimpleName());
        } catch (RuntimeException thrown) {
            if (thrown.getClass() != due) {
                tell(what + " threw " + thrown + ", due is " + due.getSimpleName());
            }
        }
    }

    /** Two rows of answers must be the same. */
    void alike(String what, List<Object> got, List<Object> want) {
        checks++;
        for (int index = 0; index < want.size() && index < got.size(); index++) {
            if (!got.get(index).equals(want.get(index))) {
                tell(what + ": answer " + index + " is " + got.get(index) + ", due is " + want.get(index));
                return;
            }
        }
        if (got.size() != want.size()) {
            tell(what + ": " + got.size() + " answers, due are " + want.size());
        }
    }

    /** The call must save one state, and undo must bring back all that was before it. */
    void undoable(String what, ForgeHeats shop, Call call) {
        checks++;
        // With six saved states the oldest would be dropped, so room for one is made first.
        shop.set(0, shop.setting(0));
        shop.undo();
        long before = shop.digest();
        int saved = shop.count(11);
        call.run();
        if (shop.count(11) != saved + 1) {
            tell(what + " did not save one state");
        }
        int left = shop.undo();
        if (left != saved) {
            tell(what + " left " + left + " saved states behind its undo");
        }
        if (shop.digest() != before) {
            tell(what + " was not undone whole");
        }
        call.run();
    }

    void tell(String message) {
        wrong++;
        if (wrong <= 40) {
            System.out.println(test + ": " + message);
        }
    }

    /** Ends the whole test, with exit code 1 if an answer was not as due. */
    void end() {
        System.out.println(test + ": " + checks + " checks, " + wrong + " wrong");
        if (wrong > 0 || checks == 0) {
            System.exit(1);
        }
    }
}
