import java.util.ArrayList;
import java.util.List;
import java.util.function.Consumer;
import java.util.function.Supplier;

/** Promise 15 and the document's "Undo": each boundary that they name, tried on both sides of it. */
public final class EdgesOfUndoTest {
    private static final Check CHECK = new Check("EdgesOfUndoTest");
    private static final String TEXT = "3d1h1@40!;2d2h0";

    /** One call, and its name for the messages. */
    private record Named(String name, Consumer<ForgeHeats> call) {
    }

    /** Every method that is marked "undoable", with a call that a shop of `ready` answers. */
    private static List<Named> undoables() {
        return List.of(
            new Named("stock", shop -> shop.stock(1, 1)),
            new Named("range", shop -> shop.range(1, 650, 1200)),
            new Named("die", shop -> shop.die(1, 4, 50)),
            new Named("grind", shop -> shop.grind(2)),
            new Named("job", shop -> shop.job(1, 1, 2, 3, true)),
            new Named("cancel", shop -> shop.cancel(0)),
            new Named("rush", shop -> shop.rush(1, true)),
            new Named("set", shop -> shop.set(1, 50)),
            new Named("pass", shop -> shop.pass(120)),
            new Named("addAll", ForgeHeats::addAll));
    }

    /** Every method that is not, with a call that a shop of `ready` answers. */
    private static List<Named> others() {
        return List.of(
            new Named("append", shop -> shop.append('1')),
            new Named("clearBuffer", ForgeHeats::clearBuffer),
            new Named("firstError", ForgeHeats::firstError),
            new Named("heat", shop -> shop.heat(0, 3)),
            new Named("dieOf", shop -> shop.dieOf(0, 2)),
            new Named("jobOf", shop -> shop.jobOf(0, 7)),
            new Named("billet", shop -> shop.billet(6, 1)),
            new Named("count", shop -> shop.count(11)),
            new Named("setting", shop -> shop.setting(3)),
            new Named("ifPassed", shop -> shop.ifPassed(240, 4)),
            new Named("doneIn", shop -> shop.doneIn(0)),
            new Named("ifRush", shop -> shop.ifRush(1)),
            new Named("bestReheats", shop -> shop.bestReheats(120)),
            new Named("saved", ForgeHeats::saved),
            new Named("digest", ForgeHeats::digest));
    }

    /** Two jobs with billets in the furnace and on the press, a text, and 4 to 6 saved states. */
    private static ForgeHeats ready(int saved) {
        ForgeHeats shop = Shops.withStock(9);
        shop.job(0, 0, 4, 5, false);
        shop.job(1, 0, 2, 70, false);
        shop.pass(14);
        while (shop.count(11) < saved) {
            shop.stock(3, 1);
        }
        Shops.write(shop, TEXT);
        return shop;
    }

    private static ForgeHeats full() {
        ForgeHeats shop = ready(6);
        CHECK.same("six saved states", shop.count(11), 6);
        return shop;
    }

    // ---- what saves a state

    /** "Each method that is marked "undoable" and does not throw an exception saves the state from before it". */
    private static void eachSavesOne() {
        for (Named each : undoables()) {
            ForgeHeats shop = ready(5);
            CHECK.same("five saved states", shop.count(11), 5);
            long before = shop.digest();
            String text = each.name().equals("addAll") ? TEXT : "";
            each.call().accept(shop);
            CHECK.same(each.name() + " saves one", shop.count(11), 6);
            CHECK.same("five are left", shop.undo(), 5);
            Shops.write(shop, text);
            CHECK.same(each.name() + " is undone whole", shop.digest(), before);
        }
    }

    /** Behind the undo of a call the shop goes on, and goes back, as if the call had never been made. */
    private static void asIfNeverMade() {
        for (Named each : undoables()) {
            if (!each.name().equals("addAll")) {
                CHECK.changesNothing(each.name() + " and undo", () -> ready(5), shop -> {
                    each.call().accept(shop);
                    shop.undo();
                });
            }
        }
        CHECK.changesNothing("addAll, undo, and the text again", () -> ready(5), shop -> {
            shop.addAll();
            shop.undo();
            Shops.write(shop, TEXT);
        });
    }

    /** "(also if it changes nothing)". */
    private static void savedWithoutChange() {
        List<Named> idle = List.of(
            new Named("the same range", shop -> shop.range(0, 900, 1100)),
            new Named("the same die", shop -> shop.die(3, 3, 60)),
            new Named("no rush job, as it is", shop -> shop.rush(0, false)),
            new Named("the same setting", shop -> shop.set(2, 1)));
        for (Named each : idle) {
            ForgeHeats shop = ready(5);
            int changed = shop.stock(0, 1);
            shop.undo();
            each.call().accept(shop);
            CHECK.same(each.name() + " saves one", shop.count(11), 6);
            CHECK.same("it is undone alone", shop.undo(), 5);
            CHECK.same("and nothing else", shop.stock(0, 1), changed);
        }
    }

    /** A method that is not marked saves nothing: what it leaves of the saved states is as it was. */
    private static void otherMethodsSaveNothing() {
        for (Named each : others()) {
            for (int saved = 4; saved <= 6; saved++) {
                int states = saved;
                Supplier<ForgeHeats> maker = () -> ready(states);
                ForgeHeats shop = maker.get();
                each.call().accept(shop);
                CHECK.same(each.name() + " saves none", shop.count(11), saved);
                ForgeHeats twin = maker.get();
                shop.clearBuffer();
                twin.clearBuffer();
                CHECK.alike(each.name() + ", then undone", Future.backwards(shop), Future.backwards(twin));
            }
        }
    }

    /** "and does not throw an exception": a refused call saves none, with no, some and six saved states. */
    private static void refusedCallsSaveNothing() {
        List<Named> refused = List.of(
            new Named("stock", shop -> shop.stock(0, 100)),
            new Named("range", shop -> shop.range(0, 599, 1100)),
            new Named("die", shop -> shop.die(0, 10, 60)),
            new Named("job", shop -> shop.job(0, 0, 41, 0, false)),
            new Named("set", shop -> shop.set(0, 9)),
            new Named("pass", shop -> shop.pass(121)));
        for (Named each : refused) {
            CHECK.asIfNotMade(each.name() + " with none", ForgeHeats::new, Check.ARGUMENT, each.call());
            CHECK.asIfNotMade(each.name() + " with some", () -> ready(5), Check.ARGUMENT, each.call());
            CHECK.asIfNotMade(each.name() + " with six", EdgesOfUndoTest::full, Check.ARGUMENT, each.call());
        }
        CHECK.asIfNotMade("cancel with six", EdgesOfUndoTest::full, Check.PLACE, shop -> shop.cancel(2));
        CHECK.asIfNotMade("rush with six", EdgesOfUndoTest::full, Check.PLACE, shop -> shop.rush(2, true));
        CHECK.asIfNotMade("grind with six", EdgesOfUndoTest::full, Check.PLACE, shop -> shop.grind(5));
        CHECK.asIfNotMade("addAll with six", EdgesOfUndoTest::fullWithWrongText, Check.ARGUMENT,
            ForgeHeats::addAll);
    }

    private static ForgeHeats fullWithWrongText() {
        ForgeHeats shop = full();
        shop.append(';');
        return shop;
    }

    // ---- six states

    /** "At most 6 states are saved": from none to six, and six behind the seventh. */
    private static void atMostSix() {
        ForgeHeats shop = new ForgeHeats();
        for (int call = 1; call <= 14; call++) {
            shop.stock(0, 1);
            CHECK.same("saved behind " + call, shop.count(11), call < 6 ? call : 6);
        }
        for (Named each : undoables()) {
            ForgeHeats more = full();
            each.call().accept(more);
            CHECK.same("six behind " + each.name(), more.count(11), 6);
        }
    }

    /** "the oldest one is dropped first": behind so many calls, the last six of them can be undone. */
    private static void oldestDroppedFirst() {
        for (int calls = 5; calls <= 14; calls++) {
            ForgeHeats shop = new ForgeHeats();
            for (int call = 1; call <= calls; call++) {
                shop.stock(0, 1);
            }
            int back = Math.min(6, calls);
            for (int undone = 1; undone <= back; undone++) {
                CHECK.same("states left", shop.undo(), back - undone);
                CHECK.same("the latest first", shop.heat(0, 0), calls - undone);
            }
            CHECK.thrown("none is left of " + calls, Check.STATE, shop::undo);
        }
    }

    /** Each undoable method drops the oldest state alone, if there are six. */
    private static void eachDropsTheOldest() {
        for (Named each : undoables()) {
            ForgeHeats shop = full();
            List<Long> states = statesBack(full());
            each.call().accept(shop);
            shop.clearBuffer();
            shop.undo();
            List<Long> left = new ArrayList<>();
            left.add(withoutSaved(shop));
            while (shop.count(11) > 0) {
                shop.undo();
                left.add(withoutSaved(shop));
            }
            CHECK.same("states behind " + each.name(), left.size(), 6);
            for (int index = 0; index < left.size(); index++) {
                CHECK.same("state " + index + " behind " + each.name(), left.get(index), states.get(index));
            }
        }
    }

    /** What is to be seen of a shop, and of each of its saved states, the latest first. */
    private static List<Long> statesBack(ForgeHeats shop) {
        List<Long> states = new ArrayList<>();
        shop.clearBuffer();
        states.add(withoutSaved(shop));
        while (shop.count(11) > 0) {
            shop.undo();
            states.add(withoutSaved(shop));
        }
        return states;
    }

    /** The digest but for the number of saved states, by which alone two shops of one state may differ. */
    private static long withoutSaved(ForgeHeats shop) {
        long factor = 1;
        // count(11) is the last of the counts; the values behind it multiply it.
        int behind = 4 + 28 + 30 + 28 + 10 * shop.count(1) + 5 + 1 + 1 + 1;
        for (int value = 0; value < behind; value++) {
            factor *= 31;
        }
        return shop.digest() - factor * shop.count(11);
    }

    // ---- undo

    /** "Returns how many saved states are left", "Throws IllegalStateException if there is none". */
    private static void untilNoneIsLeft() {
        ForgeHeats shop = full();
        for (int left = 5; left >= 0; left--) {
            CHECK.same("left", shop.undo(), left);
            CHECK.same("counted", shop.count(11), left);
        }
        CHECK.asIfNotMade("undo of none", EdgesOfUndoTest::undoneToTheEnd, Check.STATE, ForgeHeats::undo);
        CHECK.asIfNotMade("undo of a new shop", ForgeHeats::new, Check.STATE, ForgeHeats::undo);
        ForgeHeats again = undoneToTheEnd();
        again.stock(0, 1);
        CHECK.same("one again", again.undo(), 0);
    }

    private static ForgeHeats undoneToTheEnd() {
        ForgeHeats shop = full();
        while (shop.count(11) > 0) {
            shop.undo();
        }
        return shop;
    }

    /** "Restores the latest saved state, and drops it": undo itself is not undone. */
    private static void latestRestoredAndDropped() {
        ForgeHeats shop = new ForgeHeats();
        shop.stock(0, 1);
        shop.stock(0, 2);
        shop.undo();
        shop.stock(0, 4);
        CHECK.same("of the first and the third", shop.heat(0, 0), 5);
        shop.undo();
        CHECK.same("the first alone", shop.heat(0, 0), 1);
        shop.undo();
        CHECK.same("none", shop.heat(0, 0), 0);
        CHECK.thrown("the undone call is not saved", Check.STATE, shop::undo);
    }

    /** Undo and new calls by turns: the room of states that were dropped is used again. */
    private static void undoAndGoOn() {
        ForgeHeats shop = new ForgeHeats();
        List<Integer> saved = new ArrayList<>();
        int stock = 0;
        int[] turns = {7, 2, 3, 6, 8, 1, 1, 4, 5, 6, 1, 1, 9, 3, 2, 5};
        for (int turn = 0; turn < turns.length; turn++) {
            for (int call = 0; call < turns[turn]; call++) {
                if (turn % 2 == 0) {
                    saved.add(stock);
                    if (saved.size() > 6) {
                        saved.remove(0);
                    }
                    stock = shop.stock(2, 1 + turn);
                } else {
                    stock = saved.remove(saved.size() - 1);
                    CHECK.same("left in turn " + turn, shop.undo(), saved.size());
                }
                CHECK.same("saved in turn " + turn, shop.count(11), saved.size());
                CHECK.same("stock in turn " + turn, shop.heat(2, 0), stock);
            }
        }
    }

    /** "all, also what is counted so far": everything that minutes and calls change. */
    private static void allIsRestored() {
        ForgeHeats shop = ready(4);
        List<Integer> before = looks(shop);
        shop.pass(12);
        shop.cancel(1);
        shop.job(2, 2, 2, 2, true);
        shop.grind(3);
        List<Integer> behind = looks(shop);
        for (int what = 0; what <= 10; what++) {
            CHECK.same("count " + what + " has changed", behind.get(what).equals(before.get(what)) ? 0 : 1, 1);
        }
        for (int call = 0; call < 4; call++) {
            shop.undo();
        }
        CHECK.same("all is as before", looks(shop).equals(before) ? 1 : 0, 1);
    }

    /** All looks but the saved states. */
    private static List<Integer> looks(ForgeHeats shop) {
        List<Integer> seen = new ArrayList<>();
        for (int what = 0; what <= 10; what++) {
            seen.add(shop.count(what));
        }
        for (int number = 0; number <= 6; number++) {
            for (int what = 0; what <= 3; what++) {
                seen.add(shop.billet(number, what));
                seen.add(shop.jobOf(number, what + 4));
                seen.add(number < 4 ? shop.heat(number, what + 3) : 0);
                seen.add(number < 5 ? shop.dieOf(number, what + 2) : 0);
            }
        }
        return seen;
    }

    /** "but the buffer and the saved states": what is written stays, what was added or cleared does not come back. */
    private static void bufferStays() {
        ForgeHeats shop = new ForgeHeats();
        Shops.write(shop, "1d0");
        shop.stock(0, 1);
        Shops.write(shop, "h0");
        shop.undo();
        CHECK.same("all that is written", shop.firstError(), 5);
        CHECK.same("is there", shop.addAll(), 1);
        shop.undo();
        CHECK.same("what was added is not", shop.clearBuffer(), 0);
        shop.stock(0, 1);
        Shops.write(shop, "1d0");
        shop.clearBuffer();
        shop.undo();
        CHECK.same("what was cleared is not", shop.clearBuffer(), 0);
    }

    /** "Undoable, as one call": 120 minutes, and ten jobs. */
    private static void asOneCall() {
        ForgeHeats shop = Shops.withStock(40);
        shop.job(0, 0, 40, 0, false);
        long before = shop.digest();
        shop.pass(120);
        CHECK.same("pass is one call", shop.count(11), 3);
        shop.undo();
        CHECK.same("120 minutes back", shop.digest(), before);
        ForgeHeats ten = Shops.withTenJobs();
        CHECK.same("addAll is one call", ten.count(11), 1);
        CHECK.same("undone at once", ten.undo(), 0);
        CHECK.same("no jobs", ten.count(1), 0);
        CHECK.same("their numbers are free", ten.job(0, 0, 1, 0, false), 0);
    }

    public static void main(String[] args) {
        eachSavesOne();
        asIfNeverMade();
        savedWithoutChange();
        otherMethodsSaveNothing();
        refusedCallsSaveNothing();
        atMostSix();
        oldestDroppedFirst();
        eachDropsTheOldest();
        untilNoneIsLeft();
        latestRestoredAndDropped();
        undoAndGoOn();
        allIsRestored();
        bufferStays();
        asOneCall();
        CHECK.end();
    }
}
