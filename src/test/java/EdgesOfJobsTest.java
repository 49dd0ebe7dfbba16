import java.util.function.Consumer;

/** Promises 6 to 9: each sentence of the document that names a boundary, tried on both sides of it. */
public final class EdgesOfJobsTest {
    private static final Check CHECK = new Check("EdgesOfJobsTest");
    private static final int[] FAR = {Integer.MIN_VALUE, Integer.MAX_VALUE};

    private static void refused(String what, Class<? extends RuntimeException> due, Consumer<ForgeHeats> call) {
        CHECK.asIfNotMade(what + " on a new shop", ForgeHeats::new, due, call);
        CHECK.asIfNotMade(what + " on a busy shop", Shops::busy, due, call);
    }

    private static void order(String what, ForgeHeats shop, int... numbers) {
        for (int place = 0; place < numbers.length; place++) {
            CHECK.same(what + ", place " + place, shop.jobOf(place, 0), numbers[place]);
        }
        CHECK.same(what + ", behind them", shop.jobOf(numbers.length, 0), ForgeHeats.NONE);
    }

    // ---- promise 6

    /** "die: 0 to 4", "Throws IndexOutOfBoundsException if there is no such die or heat". */
    private static void jobsOfDies() {
        for (int die = 0; die <= 4; die++) {
            ForgeHeats shop = new ForgeHeats();
            CHECK.same("job with die " + die, shop.job(die, 1, 1, 0, false), 0);
            CHECK.same("its die", shop.jobOf(0, 1), die);
        }
        int[] wrong = {-1, 5, FAR[0], FAR[1]};
        for (int die : wrong) {
            refused("job with die " + die, Check.PLACE, shop -> shop.job(die, 0, 1, 0, false));
        }
    }

    /** "heat: 0 to 3". */
    private static void jobsOfHeats() {
        for (int heat = 0; heat <= 3; heat++) {
            ForgeHeats shop = new ForgeHeats();
            CHECK.same("job of heat " + heat, shop.job(1, heat, 1, 0, false), 0);
            CHECK.same("its heat", shop.jobOf(0, 2), heat);
        }
        int[] wrong = {-1, 4, FAR[0], FAR[1]};
        for (int heat : wrong) {
            refused("job of heat " + heat, Check.PLACE, shop -> shop.job(0, heat, 1, 0, false));
        }
    }

    /** "pieces: 1 to 40", "Throws IllegalArgumentException if pieces or due is out of range". */
    private static void piecesOfJobs() {
        int[] right = {1, 40};
        for (int pieces : right) {
            ForgeHeats shop = new ForgeHeats();
            CHECK.same("job of " + pieces, shop.job(0, 0, pieces, 0, false), 0);
            CHECK.same("its pieces", shop.jobOf(0, 3), pieces);
            CHECK.same("none is made so far", shop.jobOf(0, 4), 0);
        }
        int[] wrong = {0, 41, -1, FAR[0], FAR[1]};
        for (int pieces : wrong) {
            refused("job of " + pieces + " pieces", Check.ARGUMENT, shop -> shop.job(0, 0, pieces, 0, false));
        }
    }

    /** "due: 0 to 9999". */
    private static void dueOfJobs() {
        int[] right = {0, 9999};
        for (int due : right) {
            ForgeHeats shop = new ForgeHeats();
            CHECK.same("job due " + due, shop.job(0, 0, 1, due, false), 0);
            CHECK.same("its due minute", shop.jobOf(0, 5), due);
        }
        int[] wrong = {-1, 10000, FAR[0], FAR[1]};
        for (int due : wrong) {
            refused("job due " + due, Check.ARGUMENT, shop -> shop.job(0, 0, 1, due, false));
        }
        ForgeHeats late = Shops.beforeTheLastMinute(0);
        CHECK.same("due in a minute that has gone", late.job(0, 0, 1, 0, false), 0);
    }

    /** "isRush: whether it is a rush job". */
    private static void hasteOfJobs() {
        ForgeHeats shop = new ForgeHeats();
        shop.job(0, 0, 1, 0, false);
        CHECK.same("no rush job", shop.jobOf(0, 6), 0);
        CHECK.same("none is counted", shop.count(2), 0);
        shop.job(0, 0, 1, 9999, true);
        CHECK.same("a rush job", shop.jobOf(0, 6), 1);
        CHECK.same("one is counted", shop.count(2), 1);
    }

    /** "There are at most 10 jobs", "Throws IllegalStateException if there are 10 jobs". */
    private static void atMostTenJobs() {
        ForgeHeats shop = new ForgeHeats();
        for (int number = 0; number < 9; number++) {
            shop.job(0, 0, 1, 0, false);
        }
        CHECK.same("the tenth job", shop.job(0, 0, 1, 0, false), 9);
        CHECK.same("ten jobs", shop.count(1), 10);
        CHECK.asIfNotMade("the eleventh job", Shops::withTenJobs, Check.STATE, ten -> ten.job(0, 0, 1, 0, false));
        CHECK.asIfNotMade("the eleventh, a rush job", Shops::withTenJobs, Check.STATE,
            ten -> ten.job(4, 3, 40, 9999, true));
        ForgeHeats room = Shops.withTenJobs();
        room.cancel(9);
        CHECK.same("room again", room.job(0, 0, 1, 0, false), 10);
        CHECK.thrown("and full again", Check.STATE, () -> room.job(0, 0, 1, 0, false));
    }

    /** A job that is gone with all its pieces makes room, too. */
    private static void roomBehindAGoneJob() {
        ForgeHeats shop = Shops.withTenJobs();
        shop.stock(0, 1);
        shop.pass(11);
        CHECK.thrown("ten until then", Check.STATE, () -> shop.job(0, 0, 1, 0, false));
        shop.pass(1);
        CHECK.same("nine then", shop.count(1), 9);
        CHECK.same("and room for one", shop.job(0, 0, 1, 0, false), 10);
    }

    private static void jobRefusedInOrder() {
        refused("no die and no pieces", Check.PLACE, shop -> shop.job(5, 0, 0, 0, false));
        refused("no heat and 41 pieces", Check.PLACE, shop -> shop.job(0, 4, 41, 0, false));
        refused("no die and due -1", Check.PLACE, shop -> shop.job(-1, 0, 1, -1, false));
        refused("no heat and due 10000", Check.PLACE, shop -> shop.job(0, -1, 1, 10000, false));
        CHECK.asIfNotMade("no die in the eleventh", Shops::withTenJobs, Check.PLACE,
            shop -> shop.job(5, 0, 1, 0, false));
        CHECK.asIfNotMade("no heat in the eleventh", Shops::withTenJobs, Check.PLACE,
            shop -> shop.job(0, 4, 1, 0, false));
        CHECK.asIfNotMade("no pieces in the eleventh", Shops::withTenJobs, Check.ARGUMENT,
            shop -> shop.job(0, 0, 0, 0, false));
        CHECK.asIfNotMade("due 10000 in the eleventh", Shops::withTenJobs, Check.ARGUMENT,
            shop -> shop.job(0, 0, 1, 10000, false));
    }

    /** "the jobs are numbered from 0 in the order in which they came, also those that are gone". */
    private static void numbersOfJobs() {
        ForgeHeats shop = Shops.withStock(1);
        CHECK.same("the first number", shop.job(0, 0, 1, 0, false), 0);
        CHECK.same("the second, though earlier by the order", shop.job(0, 0, 1, 0, true), 1);
        shop.pass(12);
        CHECK.same("job 1 is gone with its piece", shop.count(1), 1);
        CHECK.same("its number does not come again", shop.job(0, 0, 1, 0, false), 2);
        shop.cancel(2);
        CHECK.same("nor does a cancelled one", shop.job(0, 0, 1, 0, false), 3);
        CHECK.thrown("a refused job", Check.ARGUMENT, () -> shop.job(0, 0, 0, 0, false));
        CHECK.same("has none", shop.job(0, 0, 1, 0, false), 4);
        shop.undo();
        CHECK.same("an undone job had none", shop.job(0, 0, 1, 0, false), 4);
    }

    /** "An object is used for at most 512 calls": the last of them is answered as the first. */
    private static void theLastCall() {
        ForgeHeats shop = new ForgeHeats();
        for (int number = 0; number < 255; number++) {
            CHECK.same("a new number for each", shop.job(0, 0, 1, 0, false), number);
            CHECK.same("no billet of it", shop.cancel(number), 0);
        }
        CHECK.same("call 511", shop.job(4, 3, 40, 9999, true), 255);
        CHECK.same("call 512", shop.jobOf(0, 0), 255);
    }

    /** "Jobs have an order: rush jobs first, then those that are due earlier, then those that came earlier." */
    private static void orderOfJobs() {
        ForgeHeats shop = new ForgeHeats();
        shop.job(0, 0, 1, 0, false);
        shop.job(0, 0, 1, 9999, true);
        order("a rush job first, though due last", shop, 1, 0);
        shop.job(0, 0, 1, 9998, true);
        order("of rush jobs the one due a minute earlier", shop, 2, 1, 0);
        shop.job(0, 0, 1, 9998, true);
        order("of those as due the one that came earlier", shop, 2, 3, 1, 0);
        shop.job(0, 0, 1, 1, false);
        order("due a minute later", shop, 2, 3, 1, 0, 4);
        shop.job(0, 0, 1, 0, false);
        order("as due, came later", shop, 2, 3, 1, 0, 5, 4);
    }

    // ---- promise 7

    /** "Throws IndexOutOfBoundsException if there is no such job". */
    private static void cancelOfNoJob() {
        int[] wrong = {-1, 10, FAR[0], FAR[1]};
        for (int number : wrong) {
            refused("cancel of " + number, Check.PLACE, shop -> shop.cancel(number));
            CHECK.asIfNotMade("cancel of " + number + " of ten", Shops::withTenJobs, Check.PLACE,
                shop -> shop.cancel(number));
        }
        CHECK.asIfNotMade("cancel without jobs", ForgeHeats::new, Check.PLACE, shop -> shop.cancel(0));
        CHECK.same("the first of ten", Shops.withTenJobs().cancel(0), 0);
        CHECK.same("the last of ten", Shops.withTenJobs().cancel(9), 0);
    }

    /** A job that is gone is no such job any more. */
    private static void cancelOfGoneJobs() {
        ForgeHeats twice = Shops.withTenJobs();
        twice.cancel(4);
        CHECK.thrown("a cancelled job", Check.PLACE, () -> twice.cancel(4));
        CHECK.asIfNotMade("a job with all its pieces", EdgesOfJobsTest::withDoneJob, Check.PLACE,
            shop -> shop.cancel(0));
    }

    private static ForgeHeats withDoneJob() {
        ForgeHeats shop = Shops.withLoadedPress(0);
        shop.pass(3);
        return shop;
    }

    /** "its billets are scrap", "Returns how many billets become scrap": from none to seven. */
    private static void cancelOfBillets() {
        ForgeHeats none = Shops.withStock(9);
        none.job(0, 0, 40, 0, false);
        CHECK.same("a job without billets", none.cancel(0), 0);
        CHECK.same("no scrap", none.count(5), 0);
        ForgeHeats pressed = Shops.withLoadedPress(0);
        CHECK.same("one on the press alone", pressed.cancel(0), 1);
        CHECK.same("the press is free", pressed.billet(6, 0), ForgeHeats.NONE);
        CHECK.same("it is scrap", pressed.count(5), 1);
        ForgeHeats full = Shops.withFullFurnace();
        CHECK.same("six in the furnace", full.cancel(0), 6);
        CHECK.same("the furnace is empty", full.count(3), 0);
        ForgeHeats most = Shops.withStock(20);
        most.job(0, 0, 40, 0, false);
        most.pass(10);
        CHECK.same("six and the press", most.cancel(0), 7);
        CHECK.same("scrap of its heat", most.heat(0, 5), 7);
        CHECK.same("none of another", most.heat(1, 5), 0);
        CHECK.same("the stock stays", most.heat(0, 0), 13);
    }

    /** A cancelled job leaves the billets of the others, and the pieces that were made, and is not counted as gone. */
    private static void cancelLeavesTheRest() {
        ForgeHeats shop = Shops.withStock(5);
        shop.job(0, 0, 3, 0, false);
        shop.job(1, 0, 2, 1, false);
        shop.pass(12);
        CHECK.same("a piece of job 0", shop.jobOf(0, 4), 1);
        CHECK.same("its two billets", shop.cancel(0), 2);
        CHECK.same("the other's stay", shop.count(3), 2);
        CHECK.same("they are its own", shop.billet(3, 0), 1);
        CHECK.same("the piece stays", shop.count(4), 1);
        CHECK.same("the piece of the heat", shop.heat(0, 4), 1);
        CHECK.same("it is not gone with all its pieces", shop.count(7), 0);
        CHECK.same("nor late", shop.count(8), 0);
        CHECK.same("by no minute", shop.count(9), 0);
    }

    // ---- promise 8

    /** "Throws IndexOutOfBoundsException if there is no such job". */
    private static void rushOfNoJob() {
        int[] wrong = {-1, 10, FAR[0], FAR[1]};
        for (int number : wrong) {
            refused("rush of " + number, Check.PLACE, shop -> shop.rush(number, true));
            CHECK.asIfNotMade("no rush of " + number + " of ten", Shops::withTenJobs, Check.PLACE,
                shop -> shop.rush(number, false));
        }
        CHECK.asIfNotMade("rush without jobs", ForgeHeats::new, Check.PLACE, shop -> shop.rush(0, true));
        CHECK.asIfNotMade("rush of a gone job", EdgesOfJobsTest::withDoneJob, Check.PLACE,
            shop -> shop.rush(0, true));
        ForgeHeats cancelled = Shops.withTenJobs();
        cancelled.cancel(4);
        CHECK.thrown("rush of a cancelled job", Check.PLACE, () -> cancelled.rush(4, true));
    }

    /** "Returns its place in the order then": from the first to the last. */
    private static void placeBehindRush() {
        ForgeHeats shop = Shops.withTenJobs();
        CHECK.same("the last becomes the first", shop.rush(9, true), 0);
        order("it is there", shop, 9, 0, 1, 2, 3, 4, 5, 6, 7, 8);
        CHECK.same("and the last again", shop.rush(9, false), 9);
        order("all as before", shop, 0, 1, 2, 3, 4, 5, 6, 7, 8, 9);
        CHECK.same("the first stays the first", shop.rush(0, true), 0);
        CHECK.same("behind the one that came earlier", shop.rush(5, true), 1);
        CHECK.same("between the two", shop.rush(3, true), 1);
        order("three rush jobs", shop, 0, 3, 5, 1, 2, 4, 6, 7, 8, 9);
        CHECK.same("a job alone", Shops.withLoadedPress(0).rush(0, true), 0);
    }

    /** "Makes a job a rush job, or none": also one that is so already. */
    private static void rushAsItIs() {
        ForgeHeats shop = Shops.withTenJobs();
        CHECK.same("none, as it is", shop.rush(6, false), 6);
        CHECK.same("none is counted", shop.count(2), 0);
        shop.rush(6, true);
        CHECK.same("a rush job, as it is", shop.rush(6, true), 0);
        CHECK.same("one is counted", shop.count(2), 1);
        for (int number = 0; number < 10; number++) {
            shop.rush(number, true);
        }
        CHECK.same("all are rush jobs", shop.count(2), 10);
        order("by their coming again", shop, 0, 1, 2, 3, 4, 5, 6, 7, 8, 9);
    }

    // ---- promise 9

    /** "setting: 0 to 3", "Throws IndexOutOfBoundsException if there is no such setting". */
    private static void noSuchSetting() {
        int[] wrong = {-1, 4, FAR[0], FAR[1]};
        for (int setting : wrong) {
            refused("set of " + setting, Check.PLACE, shop -> shop.set(setting, 10));
        }
        refused("no setting and no value", Check.PLACE, shop -> shop.set(4, -1));
        refused("no setting and a far value", Check.PLACE, shop -> shop.set(-1, 301));
    }

    /** A setting takes its least and its most value, and none beyond them; the others stay. */
    private static void valuesOf(int setting, int first, int least, int most) {
        ForgeHeats shop = new ForgeHeats();
        String name = "setting " + setting;
        CHECK.same(name + " returns the first value", shop.set(setting, least), first);
        CHECK.same(name + " takes " + least, shop.setting(setting), least);
        CHECK.same(name + " returns the previous value", shop.set(setting, most), least);
        CHECK.same(name + " takes " + most, shop.setting(setting), most);
        for (int other = 0; other < 4; other++) {
            if (other != setting) {
                CHECK.same("another one stays", shop.setting(other), new ForgeHeats().setting(other));
            }
        }
        int[] wrong = {least - 1, most + 1, -least - 1, FAR[0], FAR[1]};
        for (int value : wrong) {
            refused(name + " of " + value, Check.ARGUMENT, twin -> twin.set(setting, value));
        }
    }

    /** "0: warming, 10 to 300, at first 150". */
    private static void warming() {
        valuesOf(0, 150, 10, 300);
    }

    /** "1: cooling by a blow, 1 to 200, at first 40". */
    private static void cooling() {
        valuesOf(1, 40, 1, 200);
    }

    /** "2: how often a billet can be heated again, 0 to 3, at first 1". */
    private static void reheats() {
        valuesOf(2, 1, 0, 3);
    }

    /** "3: the minutes of grinding, 1 to 30, at first 5". */
    private static void grinding() {
        valuesOf(3, 5, 1, 30);
    }

    public static void main(String[] args) {
        jobsOfDies();
        jobsOfHeats();
        piecesOfJobs();
        dueOfJobs();
        hasteOfJobs();
        atMostTenJobs();
        roomBehindAGoneJob();
        jobRefusedInOrder();
        numbersOfJobs();
        theLastCall();
        orderOfJobs();
        cancelOfNoJob();
        cancelOfGoneJobs();
        cancelOfBillets();
        cancelLeavesTheRest();
        rushOfNoJob();
        placeBehindRush();
        rushAsItIs();
        noSuchSetting();
        warming();
        cooling();
        reheats();
        grinding();
        CHECK.end();
    }
}
