import java.util.function.Consumer;

/** Promises 16 to 21: each boundary that they name, tried on both sides of it. */
public final class EdgesOfLooksTest {
    private static final Check CHECK = new Check("EdgesOfLooksTest");
    private static final int[] FAR = {Integer.MIN_VALUE, Integer.MAX_VALUE};

    private static void refused(String what, Class<? extends RuntimeException> due, Consumer<ForgeHeats> call) {
        CHECK.asIfNotMade(what + " on a new shop", ForgeHeats::new, due, call);
        CHECK.asIfNotMade(what + " on a busy shop", Shops::busy, due, call);
    }

    /** "looks; nothing is changed". */
    private static void nothingIsChanged() {
        for (int what = 0; what <= 11; what++) {
            int which = what;
            CHECK.changesNothing("looks with " + what, Shops::busy, shop -> {
                shop.heat(which % 4, which % 7);
                shop.dieOf(which % 5, which % 6);
                shop.jobOf(which, which % 8);
                shop.billet(which % 7, which % 4);
                shop.count(which);
                shop.setting(which % 4);
            });
        }
    }

    // ---- promise 16

    /** "Throws IndexOutOfBoundsException if there is no such heat". */
    private static void noSuchHeat() {
        int[] wrong = {-1, 4, FAR[0], FAR[1]};
        for (int heat : wrong) {
            refused("heat " + heat, Check.PLACE, shop -> shop.heat(heat, 0));
        }
        refused("heat -1 with 7", Check.PLACE, shop -> shop.heat(-1, 7));
        refused("heat 4 with -1", Check.PLACE, shop -> shop.heat(4, -1));
    }

    /** "Throws IllegalArgumentException if what is not 0 to 6". */
    private static void noSuchPropertyOfHeat() {
        int[] wrong = {-1, 7, FAR[0], FAR[1]};
        for (int what : wrong) {
            refused("heat with " + what, Check.ARGUMENT, shop -> shop.heat(0, what));
            refused("the last heat with " + what, Check.ARGUMENT, shop -> shop.heat(3, what));
        }
        int[] first = {0, 900, 1100, 0, 0, 0, 0};
        for (int what = 0; what <= 6; what++) {
            CHECK.same("heat 0 with " + what, new ForgeHeats().heat(0, what), first[what]);
            CHECK.same("heat 3 with " + what, new ForgeHeats().heat(3, what), first[what]);
        }
    }

    /** "3: billets of it in the furnace and on the press": from none to seven. */
    private static void billetsOfHeat() {
        ForgeHeats shop = Shops.withStock(9);
        shop.job(0, 0, 9, 0, false);
        CHECK.same("none", shop.heat(0, 3), 0);
        int[] minutes = {1, 5, 3, 1};
        int[] billets = {1, 6, 6, 7};
        for (int index = 0; index < minutes.length; index++) {
            shop.pass(minutes[index]);
            CHECK.same("behind minute " + shop.count(0), shop.heat(0, 3), billets[index]);
            CHECK.same("none of another heat", shop.heat(1, 3), 0);
        }
        CHECK.same("six of them in the furnace", shop.count(3), 6);
        ForgeHeats pressed = Shops.withLoadedPress(0);
        CHECK.same("on the press alone", pressed.heat(0, 3), 1);
        CHECK.same("none in the furnace", pressed.count(3), 0);
        pressed.pass(3);
        CHECK.same("a piece is none", pressed.heat(0, 3), 0);
    }

    /** "4: pieces that were made of it so far; 5: billets of it that became scrap so far", also by jobs that are gone. */
    private static void piecesAndScrapOfHeat() {
        ForgeHeats shop = Shops.withStock(9);
        shop.job(0, 0, 2, 0, false);
        shop.pass(11);
        CHECK.same("none so far", shop.heat(0, 4), 0);
        shop.pass(1);
        CHECK.same("the first piece", shop.heat(0, 4), 1);
        shop.pass(4);
        CHECK.same("its job is gone", shop.count(1), 0);
        CHECK.same("the pieces stay", shop.heat(0, 4), 2);
        shop.job(0, 0, 2, 0, false);
        shop.pass(1);
        CHECK.same("no scrap so far", shop.heat(0, 5), 0);
        shop.cancel(1);
        CHECK.same("scrap of a cancelled job", shop.heat(0, 5), 1);
        CHECK.same("no scrap of another heat", shop.heat(3, 5), 0);
    }

    /** "6: billets that its jobs lack": none, all, and those of several jobs. */
    private static void lackOfHeat() {
        ForgeHeats shop = new ForgeHeats();
        CHECK.same("no job", shop.heat(2, 6), 0);
        for (int number = 0; number < 10; number++) {
            shop.job(0, 2, 40, 0, false);
        }
        CHECK.same("ten jobs of 40", shop.heat(2, 6), 400);
        CHECK.same("none of another heat", shop.heat(1, 6), 0);
        shop.stock(2, 9);
        shop.pass(1);
        CHECK.same("one in the furnace", shop.heat(2, 6), 399);
        shop.pass(8);
        CHECK.same("one on the press, five in the furnace", shop.heat(2, 6), 394);
        shop.pass(3);
        CHECK.same("one made, six in the furnace", shop.heat(2, 6), 393);
        ForgeHeats last = Shops.withLoadedPress(0);
        CHECK.same("none if the last lies on the press", last.heat(0, 6), 0);
    }

    /** A job that is gone lacks nothing, has no billets, and is no rush job any more. */
    private static void nothingOfGoneJobs() {
        ForgeHeats shop = Shops.withStock(3);
        shop.job(0, 0, 2, 0, false);
        shop.job(1, 0, 40, 5, true);
        shop.pass(1);
        shop.rush(0, true);
        CHECK.same("two jobs lack", shop.heat(0, 6), 2 + 39);
        shop.cancel(1);
        CHECK.same("the lack of one", shop.heat(0, 6), 2);
        CHECK.same("no billets of it", shop.heat(0, 3), 0);
        CHECK.same("one rush job", shop.count(2), 1);
        shop.cancel(0);
        CHECK.same("no lack", shop.heat(0, 6), 0);
        CHECK.same("no rush job", shop.count(2), 0);
    }

    // ---- promise 17

    /** "Throws IndexOutOfBoundsException if there is no such die". */
    private static void noSuchDie() {
        int[] wrong = {-1, 5, FAR[0], FAR[1]};
        for (int die : wrong) {
            refused("die " + die, Check.PLACE, shop -> shop.dieOf(die, 0));
        }
        refused("die -1 with 6", Check.PLACE, shop -> shop.dieOf(-1, 6));
        refused("die 5 with -1", Check.PLACE, shop -> shop.dieOf(5, -1));
    }

    /** "Throws IllegalArgumentException if what is not 0 to 5". */
    private static void noSuchPropertyOfDie() {
        int[] wrong = {-1, 6, FAR[0], FAR[1]};
        for (int what : wrong) {
            refused("die with " + what, Check.ARGUMENT, shop -> shop.dieOf(0, what));
            refused("the last die with " + what, Check.ARGUMENT, shop -> shop.dieOf(4, what));
        }
        int[] first = {3, 60, 0, 0, 0, 0};
        for (int what = 0; what <= 5; what++) {
            CHECK.same("die 0 with " + what, new ForgeHeats().dieOf(0, what), first[what]);
            CHECK.same("die 4 with " + what, new ForgeHeats().dieOf(4, what), first[what]);
        }
    }

    /** "3: the minutes for which it is still ground, 0 if it is not; 5: how often it was ground so far (whole times)". */
    private static void grindingOfDie() {
        ForgeHeats shop = new ForgeHeats();
        CHECK.same("not ground", shop.dieOf(1, 3), 0);
        shop.grind(1);
        for (int left = 5; left >= 1; left--) {
            CHECK.same("still ground", shop.dieOf(1, 3), left);
            CHECK.same("no whole time", shop.dieOf(1, 5), 0);
            CHECK.same("another one not", shop.dieOf(0, 3), 0);
            shop.pass(1);
        }
        CHECK.same("no longer", shop.dieOf(1, 3), 0);
        CHECK.same("a whole time", shop.dieOf(1, 5), 1);
        CHECK.same("not of another one", shop.dieOf(0, 5), 0);
        shop.grind(1);
        CHECK.same("a begun time is none", shop.dieOf(1, 5), 1);
        shop.pass(5);
        CHECK.same("two whole times", shop.dieOf(1, 5), 2);
    }

    /** "4: pieces that were made with it so far", also by jobs that are gone, and before it was changed. */
    private static void piecesOfDie() {
        ForgeHeats shop = Shops.withLoadedPress(0);
        shop.pass(2);
        CHECK.same("none so far", shop.dieOf(0, 4), 0);
        shop.pass(1);
        CHECK.same("one", shop.dieOf(0, 4), 1);
        shop.die(0, 9, 90);
        CHECK.same("one, though it was changed", shop.dieOf(0, 4), 1);
        CHECK.same("none with another", shop.dieOf(1, 4), 0);
    }

    // ---- promise 18

    /** "Throws IllegalArgumentException if place is below 0, or what is not 0 to 7". */
    private static void noSuchPlaceOrProperty() {
        int[] places = {-1, FAR[0]};
        for (int place : places) {
            refused("job at " + place, Check.ARGUMENT, shop -> shop.jobOf(place, 0));
        }
        int[] wrong = {-1, 8, FAR[0], FAR[1]};
        for (int what : wrong) {
            refused("job with " + what, Check.ARGUMENT, shop -> shop.jobOf(0, what));
            refused("no job with " + what, Check.ARGUMENT, shop -> shop.jobOf(10, what));
            refused("job far away with " + what, Check.ARGUMENT, shop -> shop.jobOf(FAR[1], what));
            refused("job at -1 with " + what, Check.ARGUMENT, shop -> shop.jobOf(-1, what));
        }
    }

    /** "Returns the property, NONE if there are not so many jobs". */
    private static void notSoManyJobs() {
        for (int what = 0; what <= 7; what++) {
            CHECK.same("no job at all, " + what, new ForgeHeats().jobOf(0, what), ForgeHeats.NONE);
            ForgeHeats one = Shops.withLoadedPress(0);
            CHECK.same("one job, " + what, one.jobOf(0, what), what == 3 ? 1 : 0);
            CHECK.same("no second one, " + what, one.jobOf(1, what), ForgeHeats.NONE);
            ForgeHeats ten = Shops.withTenJobs();
            int[] last = {9, 0, 0, 1, 0, 9999, 0, 3};
            CHECK.same("the tenth job, " + what, ten.jobOf(9, what), last[what]);
            CHECK.same("no eleventh, " + what, ten.jobOf(10, what), ForgeHeats.NONE);
            CHECK.same("none far away, " + what, ten.jobOf(FAR[1], what), ForgeHeats.NONE);
            ten.cancel(3);
            CHECK.same("no tenth any more, " + what, ten.jobOf(9, what), ForgeHeats.NONE);
        }
    }

    /** "4: those that are made": from none to one less than its pieces. */
    private static void piecesOfJob() {
        ForgeHeats shop = Shops.withStock(2);
        shop.job(0, 0, 2, 0, false);
        shop.pass(11);
        CHECK.same("none", shop.jobOf(0, 4), 0);
        shop.pass(1);
        CHECK.same("one of two", shop.jobOf(0, 4), 1);
        shop.pass(3);
        CHECK.same("still one", shop.jobOf(0, 4), 1);
        shop.pass(1);
        CHECK.same("the job is gone", shop.jobOf(0, 4), ForgeHeats.NONE);
    }

    /** "0 it has a billet on the press": before all other reasons. */
    private static void onThePress() {
        ForgeHeats shop = Shops.withLoadedPress(0);
        CHECK.same("on the press", shop.jobOf(0, 7), 0);
        shop.grind(0);
        CHECK.same("though its die is being ground", shop.jobOf(0, 7), 0);
        ForgeHeats worn = wornWithBilletOnPress();
        CHECK.same("though its die is worn out", worn.jobOf(0, 7), 0);
    }

    /** Die 0 is worn out by two blows of the billet on the press, while die 4 is being ground. */
    private static ForgeHeats wornWithBilletOnPress() {
        ForgeHeats shop = Shops.withStock(2);
        shop.range(0, 600, 600);
        shop.set(1, 1);
        shop.set(3, 30);
        shop.die(0, 8, 10);
        shop.grind(4);
        shop.job(0, 0, 2, 0, false);
        shop.pass(16);
        CHECK.same("wear", shop.dieOf(0, 2), 10);
        return shop;
    }

    /** "1 its die is being ground": before it being worn out, and until its last minute is over. */
    private static void whileDieIsGround() {
        ForgeHeats shop = Shops.withStock(1);
        shop.job(0, 0, 1, 0, false);
        shop.grind(1);
        CHECK.same("another die", shop.jobOf(0, 7), 4);
        shop.undo();
        shop.grind(0);
        CHECK.same("its die", shop.jobOf(0, 7), 1);
        shop.pass(4);
        CHECK.same("in the last minute", shop.jobOf(0, 7), 1);
        shop.pass(1);
        CHECK.same("behind it", shop.jobOf(0, 7), 4);
        ForgeHeats worn = wornWithBilletOnPress();
        worn.pass(14);
        CHECK.same("worn out, and being ground since this minute", worn.jobOf(0, 7), 1);
        CHECK.same("worn out it is", worn.dieOf(0, 2), 10);
    }

    /** "2 its die is worn out": at its limit, not one below it. */
    private static void wornDie() {
        ForgeHeats shop = wornWithBilletOnPress();
        shop.pass(1);
        CHECK.same("wear 10 of 10", shop.jobOf(0, 7), 2);
        int[] limits = {10, 11};
        for (int limit : limits) {
            ForgeHeats hot = Shops.withStock(3);
            hot.range(0, 600, 600);
            hot.set(1, 1);
            hot.set(3, 30);
            hot.die(0, 5, limit);
            hot.grind(4);
            hot.job(0, 0, 3, 0, false);
            hot.pass(16);
            CHECK.same("wear 10 of " + limit, hot.jobOf(0, 7), limit == 10 ? 2 : 6);
        }
    }

    /** "3 it has no billet in the furnace, and its heat has no stock": with one of them it is not that. */
    private static void neitherBilletNorStock() {
        ForgeHeats shop = new ForgeHeats();
        shop.job(0, 0, 1, 0, false);
        shop.job(1, 1, 1, 0, false);
        CHECK.same("neither", shop.jobOf(0, 7), 3);
        shop.stock(0, 1);
        CHECK.same("a stock of one", shop.jobOf(0, 7), 4);
        CHECK.same("which is no stock of another heat", shop.jobOf(1, 7), 3);
        shop.pass(1);
        CHECK.same("no stock, but a billet", shop.heat(0, 0), 0);
        CHECK.same("which is too cold", shop.jobOf(0, 7), 4);
        CHECK.same("and is no billet of the other job", shop.jobOf(1, 7), 3);
    }

    /** "4 none of its billets in the furnace is hot enough": one degree too cold, or just as hot. */
    private static void notHotEnough() {
        ForgeHeats shop = Shops.withStock(1);
        shop.job(0, 0, 1, 5, false);
        shop.job(1, 0, 1, 9, true);
        shop.pass(8);
        CHECK.same("not hot yet", shop.jobOf(0, 7), 4);
        CHECK.same("and none of the other job", shop.jobOf(1, 7), 3);
        ForgeHeats one = oneOf1220(1220);
        CHECK.same("1220 of 1220", one.jobOf(0, 7), 6);
        ForgeHeats colder = oneOf1220(1221);
        CHECK.same("1220 of 1221", colder.jobOf(0, 7), 4);
    }

    /** A billet of 1220 degrees in the furnace, the press being free, and its die too. */
    private static ForgeHeats oneOf1220(int high) {
        ForgeHeats shop = Shops.withStock(1);
        shop.range(0, 900, 1240);
        shop.job(0, 0, 1, 0, false);
        shop.pass(9);
        CHECK.same("in the furnace", shop.billet(0, 1), 1220);
        shop.range(0, 900, high);
        return shop;
    }

    /** "(or it has none there)": stock alone is not hot. */
    private static void noneThere() {
        ForgeHeats shop = Shops.withFullFurnace();
        shop.job(1, 0, 1, 0, false);
        CHECK.same("stock, but no place", shop.jobOf(1, 7), 4);
    }

    /** "5 another billet is on the press", "6 none of these". */
    private static void pressOfAnother() {
        ForgeHeats shop = Shops.withStock(2);
        shop.job(0, 0, 1, 0, false);
        shop.job(1, 0, 1, 1, false);
        shop.pass(10);
        CHECK.same("hot, but another billet is on the press", shop.jobOf(1, 7), 5);
        shop.pass(2);
        CHECK.same("the press is free", shop.jobOf(0, 7), 6);
        shop.pass(1);
        CHECK.same("it is its own", shop.jobOf(0, 7), 0);
    }

    // ---- promise 19

    /** "place: 0 to 5: a place of the furnace; 6: the press", "if there is no such place". */
    private static void noSuchBilletPlace() {
        int[] wrong = {-1, 7, FAR[0], FAR[1]};
        for (int place : wrong) {
            refused("place " + place, Check.PLACE, shop -> shop.billet(place, 0));
        }
        refused("place -1 with 4", Check.PLACE, shop -> shop.billet(-1, 4));
        refused("place 7 with -1", Check.PLACE, shop -> shop.billet(7, -1));
    }

    /** "Throws IllegalArgumentException if what is not 0 to 3", also where no billet is. */
    private static void noSuchPropertyOfBillet() {
        int[] wrong = {-1, 4, FAR[0], FAR[1]};
        for (int what : wrong) {
            for (int place = 0; place <= 6; place++) {
                int which = place;
                CHECK.asIfNotMade("billet at " + place + " with " + what, ForgeHeats::new, Check.ARGUMENT,
                    shop -> shop.billet(which, what));
                CHECK.asIfNotMade("one at " + place + " with " + what, EdgesOfLooksTest::withSeven, Check.ARGUMENT,
                    shop -> shop.billet(which, what));
            }
        }
    }

    /** Six billets in the furnace and one on the press. */
    private static ForgeHeats withSeven() {
        ForgeHeats shop = Shops.withStock(9);
        shop.job(0, 0, 9, 0, false);
        shop.pass(10);
        return shop;
    }

    /** "NONE if there is no billet": at each place of an empty and of a full shop. */
    private static void billetOrNone() {
        for (int place = 0; place <= 6; place++) {
            for (int what = 0; what <= 3; what++) {
                CHECK.same("no billet, " + what, new ForgeHeats().billet(place, what), ForgeHeats.NONE);
                int[][] all = {{0, 20, 0, 3}, {0, 1220, 0, 3}, {0, 1070, 0, 3}, {0, 920, 0, 3},
                    {0, 770, 0, 3}, {0, 620, 0, 3}, {0, 1180, 0, 2}};
                CHECK.same("billet at " + place + ", " + what, withSeven().billet(place, what), all[place][what]);
            }
        }
        ForgeHeats gone = withSeven();
        gone.cancel(0);
        for (int what = 0; what <= 3; what++) {
            CHECK.same("no longer at place 1, " + what, gone.billet(1, what), ForgeHeats.NONE);
            CHECK.same("no longer on the press, " + what, gone.billet(6, what), ForgeHeats.NONE);
        }
    }

    /** "2: how often it was heated again": 0 to 3 times. */
    private static void heatedAgain() {
        ForgeHeats shop = Shops.withLoadedPress(0);
        shop.set(2, 3);
        shop.set(3, 1);
        for (int times = 0; times <= 3; times++) {
            CHECK.same("on the press", shop.billet(6, 2), times);
            shop.grind(0);
            shop.pass(1);
            CHECK.same("behind it", shop.billet(0, 2), times < 3 ? times + 1 : ForgeHeats.NONE);
            shop.pass(1);
        }
    }

    // ---- promise 20

    /** "Throws IllegalArgumentException if what is not 0 to 11". */
    private static void noSuchNumber() {
        int[] wrong = {-1, 12, FAR[0], FAR[1]};
        for (int what : wrong) {
            refused("count " + what, Check.ARGUMENT, shop -> shop.count(what));
        }
        for (int what = 0; what <= 11; what++) {
            CHECK.same("count " + what + " at first", new ForgeHeats().count(what), what == 10 ? -1 : 0);
        }
    }

    /** "1: jobs; 2: rush jobs": from none to ten. */
    private static void countOfJobs() {
        ForgeHeats shop = Shops.withTenJobs();
        CHECK.same("ten jobs", shop.count(1), 10);
        for (int number = 9; number >= 0; number--) {
            CHECK.same("rush jobs", shop.count(2), 9 - number);
            shop.rush(number, true);
        }
        CHECK.same("ten rush jobs", shop.count(2), 10);
        for (int number = 0; number < 10; number++) {
            shop.cancel(number);
            CHECK.same("jobs left", shop.count(1), 9 - number);
            CHECK.same("rush jobs left", shop.count(2), 9 - number);
        }
    }

    /** "3: billets in the furnace": from none to six, and not the one on the press. */
    private static void countInFurnace() {
        CHECK.same("one on the press alone", Shops.withLoadedPress(0).count(3), 0);
        CHECK.same("six and one on the press", withSeven().count(3), 6);
        ForgeHeats shop = Shops.withStock(9);
        shop.job(0, 0, 9, 0, false);
        for (int billets = 1; billets <= 6; billets++) {
            shop.pass(1);
            CHECK.same("one a minute", shop.count(3), billets);
        }
        shop.pass(1);
        CHECK.same("not more", shop.count(3), 6);
    }

    /** "7: jobs that are gone with all their pieces so far; 8: of these late ones; 9: the minutes ... all together". */
    private static void countOfGoneJobs() {
        ForgeHeats shop = Shops.withStock(9);
        int[] dues = {11, 16, 17, 25};
        int[] gone = {12, 16, 20, 24};
        int[] late = {1, 1, 2, 2};
        int[] minutes = {1, 1, 4, 4};
        for (int due : dues) {
            shop.job(0, 0, 1, due, false);
        }
        int past = 0;
        for (int index = 0; index < dues.length; index++) {
            shop.pass(gone[index] - past - 1);
            CHECK.same("not yet", shop.count(7), index);
            shop.pass(1);
            past = gone[index];
            CHECK.same("gone", shop.count(7), index + 1);
            CHECK.same("late ones", shop.count(8), late[index]);
            CHECK.same("late by, all together", shop.count(9), minutes[index]);
        }
        shop.job(0, 0, 1, 0, false);
        shop.cancel(4);
        CHECK.same("a cancelled job is not", shop.count(7), 4);
        CHECK.same("nor late", shop.count(8), 2);
    }

    /** "4: pieces ... 5: billets that became scrap ... 6: blows so far": of all heats and dies together. */
    private static void countOfAllHeats() {
        ForgeHeats shop = new ForgeHeats();
        for (int heat = 0; heat < 4; heat++) {
            shop.stock(heat, 1);
            shop.job(heat, heat, 1, heat, false);
        }
        shop.pass(24);
        CHECK.same("four pieces", shop.count(4), 4);
        CHECK.same("twelve blows", shop.count(6), 12);
        CHECK.same("no scrap", shop.count(5), 0);
        for (int heat = 0; heat < 4; heat++) {
            shop.stock(heat, 1);
            int number = shop.job(heat, heat, 1, 0, false);
            shop.pass(1);
            shop.cancel(number);
            CHECK.same("scrap", shop.count(5), heat + 1);
        }
    }

    /** "10: the die that is being ground, NONE if none is; 11: saved states". */
    private static void countOfGroundDie() {
        for (int die = 0; die < 5; die++) {
            ForgeHeats shop = new ForgeHeats();
            CHECK.same("none", shop.count(10), ForgeHeats.NONE);
            shop.grind(die);
            CHECK.same("die " + die, shop.count(10), die);
            CHECK.same("one saved state", shop.count(11), 1);
            shop.pass(5);
            CHECK.same("none again", shop.count(10), ForgeHeats.NONE);
            CHECK.same("two saved states", shop.count(11), 2);
        }
    }

    // ---- promise 21

    /** "setting: 0 to 3", "Throws IndexOutOfBoundsException if there is no such setting". */
    private static void noSuchSetting() {
        int[] wrong = {-1, 4, FAR[0], FAR[1]};
        for (int setting : wrong) {
            refused("setting " + setting, Check.PLACE, shop -> shop.setting(setting));
        }
        CHECK.same("setting 0", new ForgeHeats().setting(0), 150);
        CHECK.same("setting 3", new ForgeHeats().setting(3), 5);
    }

    public static void main(String[] args) {
        nothingIsChanged();
        noSuchHeat();
        noSuchPropertyOfHeat();
        billetsOfHeat();
        piecesAndScrapOfHeat();
        lackOfHeat();
        nothingOfGoneJobs();
        noSuchDie();
        noSuchPropertyOfDie();
        grindingOfDie();
        piecesOfDie();
        noSuchPlaceOrProperty();
        notSoManyJobs();
        piecesOfJob();
        onThePress();
        whileDieIsGround();
        wornDie();
        neitherBilletNorStock();
        notHotEnough();
        noneThere();
        pressOfAnother();
        noSuchBilletPlace();
        noSuchPropertyOfBillet();
        billetOrNone();
        heatedAgain();
        noSuchNumber();
        countOfJobs();
        countInFurnace();
        countOfGoneJobs();
        countOfAllHeats();
        countOfGroundDie();
        noSuchSetting();
        CHECK.end();
    }
}
