/** Promises 6 to 9: job, cancel, rush, set. */
public final class JobsTest {
    private static final Class<IndexOutOfBoundsException> PLACE = IndexOutOfBoundsException.class;
    private static final Class<IllegalArgumentException> ARGUMENT = IllegalArgumentException.class;
    private static final Class<IllegalStateException> STATE = IllegalStateException.class;
    private static final Check CHECK = new Check("JobsTest");

    private static void order(String what, ForgeHeats shop, int... numbers) {
        for (int place = 0; place < numbers.length; place++) {
            CHECK.same(what + ", place " + place, shop.jobOf(place, 0), numbers[place]);
        }
        CHECK.same(what + ", the end", shop.jobOf(numbers.length, 0), -1);
    }

    private static void job() {
        ForgeHeats shop = new ForgeHeats();
        CHECK.same("job 0", shop.job(4, 3, 40, 9999, false), 0);
        CHECK.same("job 1", shop.job(0, 0, 1, 0, false), 1);
        CHECK.same("job 2", shop.job(1, 1, 5, 300, true), 2);
        CHECK.same("job 3", shop.job(1, 1, 5, 20, true), 3);
        CHECK.same("job 4", shop.job(1, 1, 5, 0, false), 4);
        CHECK.same("job 5", shop.job(1, 1, 5, 20, true), 5);
        order("haste, due, coming", shop, 3, 5, 2, 1, 4, 0);
        int[] last = {0, 4, 3, 40, 0, 9999, 0};
        int[] first = {3, 1, 1, 5, 0, 20, 1};
        for (int what = 0; what < 7; what++) {
            CHECK.same("last job " + what, shop.jobOf(5, what), last[what]);
            CHECK.same("first job " + what, shop.jobOf(0, what), first[what]);
        }
        CHECK.refused("die -1", shop, PLACE, () -> shop.job(-1, 0, 0, -1, true));
        CHECK.refused("die 5", shop, PLACE, () -> shop.job(5, 0, 1, 0, true));
        CHECK.refused("heat -1", shop, PLACE, () -> shop.job(0, -1, 1, 0, true));
        CHECK.refused("heat 4", shop, PLACE, () -> shop.job(0, 4, 41, 0, true));
        CHECK.refused("0 pieces", shop, ARGUMENT, () -> shop.job(0, 0, 0, 0, true));
        CHECK.refused("41 pieces", shop, ARGUMENT, () -> shop.job(0, 0, 41, 0, true));
        CHECK.refused("due -1", shop, ARGUMENT, () -> shop.job(0, 0, 1, -1, true));
        CHECK.refused("due 10000", shop, ARGUMENT, () -> shop.job(0, 0, 1, 10000, true));
        CHECK.undoable("job", shop, () -> shop.job(2, 2, 2, 2, true));
        CHECK.same("an undone number comes again", shop.jobOf(0, 0), 6);
        shop.cancel(6);
        CHECK.same("a gone number does not", shop.job(2, 2, 2, 2, true), 7);
    }

    private static void tenJobs() {
        ForgeHeats shop = new ForgeHeats();
        for (int number = 0; number < 10; number++) {
            CHECK.same("job " + number, shop.job(0, 0, 1, 90 - number, false), number);
        }
        order("ten jobs", shop, 9, 8, 7, 6, 5, 4, 3, 2, 1, 0);
        CHECK.refused("the eleventh job", shop, STATE, () -> shop.job(0, 0, 1, 0, false));
        CHECK.refused("pieces before state", shop, ARGUMENT, () -> shop.job(0, 0, 0, 0, false));
        CHECK.refused("heat before pieces", shop, PLACE, () -> shop.job(0, 4, 0, 0, false));
        CHECK.same("cancel the middle", shop.cancel(5), 0);
        order("nine jobs", shop, 9, 8, 7, 6, 4, 3, 2, 1, 0);
        CHECK.same("room again", shop.job(0, 0, 1, 85, false), 10);
        order("ten jobs again", shop, 9, 8, 7, 6, 10, 4, 3, 2, 1, 0);
    }

    private static void cancel() {
        ForgeHeats shop = new ForgeHeats();
        shop.stock(0, 10);
        shop.stock(1, 10);
        shop.job(0, 0, 3, 0, false);
        shop.job(1, 1, 4, 5, false);
        shop.pass(9);
        // Three billets of job 0, the first of them on the press since this minute, and three of job 1.
        CHECK.same("on the press", shop.billet(6, 0), 0);
        CHECK.same("in the furnace", shop.count(3), 5);
        CHECK.undoable("cancel", shop, () -> shop.cancel(0));
        CHECK.same("the press is free", shop.billet(6, 0), -1);
        CHECK.same("left in the furnace", shop.count(3), 3);
        CHECK.same("scrap of heat 0", shop.heat(0, 5), 3);
        CHECK.same("scrap of heat 1", shop.heat(1, 5), 0);
        CHECK.same("all scrap", shop.count(5), 3);
        CHECK.same("it is not gone with its pieces", shop.count(7), 0);
        CHECK.same("the stock does not come back", shop.heat(0, 0), 7);
        order("the other job", shop, 1);
        CHECK.same("cancel returns the scrap", shop.cancel(1), 3);
        CHECK.same("an empty furnace", shop.count(3), 0);
        CHECK.refused("a gone job", shop, PLACE, () -> shop.cancel(1));
        CHECK.refused("job -1", shop, PLACE, () -> shop.cancel(-1));
        CHECK.refused("job 2", shop, PLACE, () -> shop.cancel(2));
        CHECK.same("job 2 then", shop.job(0, 0, 1, 0, false), 2);
        CHECK.same("cancel without billets", shop.cancel(2), 0);
        ForgeHeats done = Shops.withLoadedPress(0);
        done.pass(3);
        CHECK.refused("a finished job", done, PLACE, () -> done.cancel(0));
    }

    private static void rush() {
        ForgeHeats shop = new ForgeHeats();
        shop.job(0, 0, 1, 10, false);
        shop.job(0, 0, 1, 5, false);
        shop.job(0, 0, 1, 5, false);
        shop.job(0, 0, 1, 30, true);
        order("before", shop, 3, 1, 2, 0);
        CHECK.same("rush of job 0", shop.rush(0, true), 0);
        order("an earlier rush job", shop, 0, 3, 1, 2);
        CHECK.same("rush jobs", shop.count(2), 2);
        CHECK.same("rush of job 2", shop.rush(2, true), 0);
        CHECK.same("it is one already", shop.rush(2, true), 0);
        order("three rush jobs", shop, 2, 0, 3, 1);
        CHECK.same("none any more", shop.rush(3, false), 3);
        order("the latest last", shop, 2, 0, 1, 3);
        CHECK.same("back between equals", shop.rush(2, false), 2);
        order("the one that came earlier first", shop, 0, 1, 2, 3);
        CHECK.same("is not one", shop.rush(3, false), 3);
        CHECK.same("one rush job", shop.count(2), 1);
        CHECK.refused("rush of -1", shop, PLACE, () -> shop.rush(-1, true));
        CHECK.refused("rush of 4", shop, PLACE, () -> shop.rush(4, true));
        ForgeHeats other = Shops.busy();
        CHECK.undoable("rush", other, () -> other.rush(3, true));
        CHECK.undoable("the same rush", other, () -> other.rush(3, true));
    }

    private static void set() {
        int[] first = {150, 40, 1, 5};
        int[] least = {10, 1, 0, 1};
        int[] most = {300, 200, 3, 30};
        for (int setting = 0; setting < 4; setting++) {
            ForgeHeats shop = Shops.busy();
            if (setting == 1) {
                shop.set(1, 40);
            }
            int which = setting;
            CHECK.same("set " + setting, shop.set(setting, least[setting]), first[setting]);
            CHECK.same("least " + setting, shop.setting(setting), least[setting]);
            CHECK.same("set again " + setting, shop.set(setting, most[setting]), least[setting]);
            CHECK.same("most " + setting, shop.setting(setting), most[setting]);
            CHECK.refused("below " + setting, shop, ARGUMENT, () -> shop.set(which, least[which] - 1));
            CHECK.refused("above " + setting, shop, ARGUMENT, () -> shop.set(which, most[which] + 1));
            CHECK.undoable("set " + setting, shop, () -> shop.set(which, least[which] + 1));
            CHECK.same("set once more " + setting, shop.setting(setting), least[setting] + 1);
        }
        ForgeHeats shop = new ForgeHeats();
        CHECK.refused("setting -1", shop, PLACE, () -> shop.set(-1, -1));
        CHECK.refused("setting 4", shop, PLACE, () -> shop.set(4, 1));
    }

    public static void main(String[] args) {
        job();
        tenJobs();
        cancel();
        rush();
        set();
        CHECK.end();
    }
}
