/** Counts the answers of a test that are not as due, and ends the test. */
final class Check {
    /** A call of the class under test, whose answer is not needed. */
    interface Call {
        void run();
    }

    private final String test;
    private int checks;
    private int wrong;

    Check(String test) {
        this.test = test;
    }

    void same(String what, long got, long want) {
        checks++;
        if (got != want) {
            tell(what + " answered " + got + ", due is " + want);
        }
    }

    void same(String what, double got, double want) {
        checks++;
        if (Double.compare(got, want) != 0) {
            tell(what + " answered " + got + ", due is " + want);
        }
    }

    /** The call must throw exactly this exception, and change nothing that can be seen. */
    void refused(String what, ForgeHeats shop, Class<? extends RuntimeException> due, Call call) {
        checks++;
        long before = shop.digest();
        try {
            call.run();
            tell(what + " threw nothing, due is " + due.getSimpleName());
        } catch (RuntimeException thrown) {
            if (thrown.getClass() != due) {
                tell(what + " threw " + thrown + ", due is " + due.getSimpleName());
            }
        }
        if (shop.digest() != before) {
            tell(what + " changed the shop, though it was refused");
        }
    }

    /** The call must save one state, and undo must bring back all that was before it. */
    void undoable(String what, ForgeHeats shop, Call call) {
        checks++;
        // With six saved states the oldest would be dropped, so room for one is made first.
        shop.set(0, shop.setting(0));
        shop.undo();
        long before = shop.digest();
        int saved = shop.count(11);
        call.run();
        if (shop.count(11) != saved + 1) {
            tell(what + " did not save one state");
        }
        int left = shop.undo();
        if (left != saved) {
            tell(what + " left " + left + " saved states behind its undo");
        }
        if (shop.digest() != before) {
            tell(what + " was not undone whole");
        }
        call.run();
    }

    void tell(String message) {
        wrong++;
        if (wrong <= 40) {
            System.out.println(test + ": " + message);
        }
    }

    /** Ends the whole test, with exit code 1 if an answer was not as due. */
    void end() {
        System.out.println(test + ": " + checks + " checks, " + wrong + " wrong");
        if (wrong > 0 || checks == 0) {
            System.exit(1);
        }
    }
}
