/** Promises 16 to 21: heat, dieOf, jobOf, billet, count, setting. */
public final class LooksTest {
    private static final Class<IndexOutOfBoundsException> PLACE = IndexOutOfBoundsException.class;
    private static final Class<IllegalArgumentException> ARGUMENT = IllegalArgumentException.class;
    private static final Check CHECK = new Check("LooksTest");

    private static void heat() {
        ForgeHeats shop = new ForgeHeats();
        shop.stock(1, 9);
        shop.stock(2, 2);
        shop.range(1, 700, 1150);
        shop.job(0, 1, 3, 0, false);
        shop.job(1, 2, 4, 1, false);
        shop.job(2, 1, 5, 2, false);
        shop.pass(12);
        // One piece of job 0 is made, and two billets of each job fill the furnace.
        int[] one = {4, 700, 1150, 4, 1, 0, 3};
        int[] two = {0, 900, 1100, 2, 0, 0, 2};
        int[] none = {0, 900, 1100, 0, 0, 0, 0};
        for (int what = 0; what <= 6; what++) {
            CHECK.same("heat 1, " + what, shop.heat(1, what), one[what]);
            CHECK.same("heat 2, " + what, shop.heat(2, what), two[what]);
            CHECK.same("heat 3, " + what, shop.heat(3, what), none[what]);
        }
        shop.pass(1);
        CHECK.same("on the press", shop.billet(6, 0), 0);
        CHECK.same("the one on the press counts", shop.heat(1, 3), 4);
        CHECK.same("and it is not lacking", shop.heat(1, 6), 3);
        shop.job(3, 1, 7, 3, false);
        CHECK.same("the lack of two jobs", shop.heat(1, 6), 10);
        shop.cancel(3);
        shop.cancel(2);
        CHECK.same("scrap of heat 1", shop.heat(1, 5), 2);
        CHECK.same("a gone job lacks none", shop.heat(1, 6), 0);
        CHECK.refused("heat -1", shop, PLACE, () -> shop.heat(-1, 7));
        CHECK.refused("heat 4", shop, PLACE, () -> shop.heat(4, 0));
        CHECK.refused("heat what -1", shop, ARGUMENT, () -> shop.heat(0, -1));
        CHECK.refused("heat what 7", shop, ARGUMENT, () -> shop.heat(0, 7));
    }

    private static void dieOf() {
        ForgeHeats shop = Shops.withLoadedPress(0);
        shop.die(3, 4, 77);
        shop.pass(2);
        int[] wearing = {3, 60, 2, 0, 0, 0};
        int[] other = {4, 77, 0, 0, 0, 0};
        for (int what = 0; what <= 5; what++) {
            CHECK.same("die 0, " + what, shop.dieOf(0, what), wearing[what]);
            CHECK.same("die 3, " + what, shop.dieOf(3, what), other[what]);
        }
        shop.pass(1);
        shop.grind(0);
        shop.pass(1);
        int[] ground = {3, 60, 3, 4, 1, 0};
        for (int what = 0; what <= 5; what++) {
            CHECK.same("a ground die, " + what, shop.dieOf(0, what), ground[what]);
        }
        shop.pass(4);
        int[] done = {3, 55, 0, 0, 1, 1};
        for (int what = 0; what <= 5; what++) {
            CHECK.same("behind grinding, " + what, shop.dieOf(0, what), done[what]);
        }
        CHECK.refused("die -1", shop, PLACE, () -> shop.dieOf(-1, 6));
        CHECK.refused("die 5", shop, PLACE, () -> shop.dieOf(5, 0));
        CHECK.refused("die what -1", shop, ARGUMENT, () -> shop.dieOf(0, -1));
        CHECK.refused("die what 6", shop, ARGUMENT, () -> shop.dieOf(0, 6));
    }

    private static void jobOf() {
        ForgeHeats shop = Shops.withStock(9);
        shop.job(3, 0, 7, 44, true);
        shop.pass(12);
        int[] all = {0, 3, 0, 7, 1, 44, 1};
        for (int what = 0; what < 7; what++) {
            CHECK.same("job 0, " + what, shop.jobOf(0, what), all[what]);
            CHECK.same("no job, " + what, shop.jobOf(1, what), -1);
        }
        CHECK.same("no reason of no job", shop.jobOf(1, 7), -1);
        CHECK.same("far places", shop.jobOf(Integer.MAX_VALUE, 0), -1);
        CHECK.same("place 10", shop.jobOf(10, 0), -1);
        CHECK.refused("place -1", shop, ARGUMENT, () -> shop.jobOf(-1, 0));
        CHECK.refused("job what -1", shop, ARGUMENT, () -> shop.jobOf(0, -1));
        CHECK.refused("job what 8", shop, ARGUMENT, () -> shop.jobOf(0, 8));
        CHECK.refused("what of no job", shop, ARGUMENT, () -> shop.jobOf(5, 8));
    }

    private static void reasons() {
        ForgeHeats shop = new ForgeHeats();
        shop.job(0, 0, 1, 0, false);
        shop.job(1, 0, 1, 1, false);
        shop.job(2, 1, 1, 2, false);
        CHECK.same("no billet, no stock", shop.jobOf(0, 7), 3);
        shop.stock(0, 2);
        CHECK.same("no billet, but stock", shop.jobOf(0, 7), 4);
        CHECK.same("stock of another heat", shop.jobOf(2, 7), 3);
        shop.pass(8);
        CHECK.same("a cold billet, no stock", shop.jobOf(0, 7), 4);
        shop.pass(1);
        CHECK.same("on the press", shop.jobOf(0, 7), 0);
        CHECK.same("not hot enough", shop.jobOf(1, 7), 4);
        shop.pass(1);
        CHECK.same("another billet is on the press", shop.jobOf(1, 7), 5);
        CHECK.same("the press does not matter without a billet", shop.jobOf(2, 7), 3);
        shop.grind(0);
        CHECK.same("on the press, its die being ground", shop.jobOf(0, 7), 0);
        shop.undo();
        shop.grind(1);
        CHECK.same("its die is being ground", shop.jobOf(1, 7), 1);
        shop.undo();
        shop.grind(2);
        CHECK.same("no stock, but its die being ground first", shop.jobOf(2, 7), 1);
        shop.undo();
        shop.pass(2);
        CHECK.same("nothing in its way", shop.jobOf(0, 0), 1);
        CHECK.same("no reason", shop.jobOf(0, 7), 6);
        shop.range(0, 900, 1240);
        CHECK.same("no longer hot enough", shop.jobOf(0, 7), 6);
        shop.range(0, 900, 1100);
    }

    private static void wornDieReason() {
        ForgeHeats shop = Shops.withStock(9);
        shop.range(0, 600, 1240);
        shop.set(0, 300);
        shop.set(1, 200);
        shop.set(3, 30);
        shop.die(1, 4, 10);
        shop.job(1, 0, 2, 0, false);
        shop.grind(4);
        shop.pass(10);
        CHECK.same("wear above the limit", shop.dieOf(1, 2), 13);
        CHECK.same("its die is worn out", shop.jobOf(0, 7), 2);
        shop.pass(19);
        CHECK.same("still, with the grinder busy", shop.jobOf(0, 7), 2);
        shop.pass(1);
        CHECK.same("now it is being ground", shop.jobOf(0, 7), 1);
    }

    private static void billet() {
        ForgeHeats shop = Shops.withStock(2);
        shop.job(2, 0, 2, 0, false);
        shop.pass(10);
        int[] press = {0, 1180, 0, 2};
        int[] second = {0, 1220, 0, 3};
        for (int what = 0; what <= 3; what++) {
            CHECK.same("the press, " + what, shop.billet(6, what), press[what]);
            CHECK.same("place 1, " + what, shop.billet(1, what), second[what]);
            CHECK.same("an empty place, " + what, shop.billet(0, what), -1);
        }
        CHECK.refused("place -1", shop, PLACE, () -> shop.billet(-1, 4));
        CHECK.refused("place 7", shop, PLACE, () -> shop.billet(7, 0));
        CHECK.refused("billet what -1", shop, ARGUMENT, () -> shop.billet(0, -1));
        CHECK.refused("billet what 4", shop, ARGUMENT, () -> shop.billet(0, 4));
    }

    private static void count() {
        ForgeHeats shop = Shops.withStock(9);
        shop.job(0, 0, 1, 5, true);
        shop.job(1, 0, 1, 99, false);
        shop.job(2, 0, 4, 0, true);
        shop.cancel(2);
        shop.job(2, 0, 4, 100, true);
        shop.grind(3);
        shop.set(3, 9);
        // Job 0 is gone behind minute 12, 7 minutes late; job 3 then sends two pieces, at 16 and 20.
        shop.pass(20);
        shop.grind(4);
        int[] counts = {20, 2, 1, 3, 3, 0, 9, 1, 1, 7, 4, 6};
        for (int what = 0; what <= 11; what++) {
            CHECK.same("count " + what, shop.count(what), counts[what]);
        }
        shop.cancel(1);
        CHECK.same("scrap", shop.count(5), 1);
        shop.pass(8);
        CHECK.same("jobs gone", shop.count(7), 2);
        CHECK.same("late ones", shop.count(8), 1);
        CHECK.same("no jobs", shop.count(1), 0);
        CHECK.same("no rush jobs", shop.count(2), 0);
        CHECK.same("no billets", shop.count(3), 0);
        CHECK.refused("count -1", shop, ARGUMENT, () -> shop.count(-1));
        CHECK.refused("count 12", shop, ARGUMENT, () -> shop.count(12));
    }

    private static void setting() {
        ForgeHeats shop = new ForgeHeats();
        shop.set(0, 11);
        shop.set(1, 12);
        shop.set(2, 3);
        shop.set(3, 13);
        int[] values = {11, 12, 3, 13};
        for (int setting = 0; setting < 4; setting++) {
            CHECK.same("setting " + setting, shop.setting(setting), values[setting]);
        }
        CHECK.refused("setting -1", shop, PLACE, () -> shop.setting(-1));
        CHECK.refused("setting 4", shop, PLACE, () -> shop.setting(4));
    }

    private static void nothingChanges() {
        ForgeHeats shop = Shops.busy();
        long before = shop.digest();
        for (int what = 0; what <= 3; what++) {
            shop.heat(0, what);
            shop.dieOf(0, what);
            shop.jobOf(0, what);
            shop.billet(what, what);
            shop.count(what);
            shop.setting(what);
        }
        CHECK.same("looks change nothing", shop.digest(), before);
    }

    public static void main(String[] args) {
        heat();
        dieOf();
        jobOf();
        reasons();
        wornDieReason();
        billet();
        count();
        setting();
        nothingChanges();
        CHECK.end();
    }
}
