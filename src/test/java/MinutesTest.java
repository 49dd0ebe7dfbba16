/** Promise 10, pass, and what the document says of a minute. */
public final class MinutesTest {
    private static final Check CHECK = new Check("MinutesTest");

    private static void billet(String what, ForgeHeats shop, int place, int... properties) {
        for (int index = 0; index < properties.length; index++) {
            CHECK.same(what + ", place " + place + ", property " + index,
                shop.billet(place, index), properties[index]);
        }
    }

    private static void onePiece() {
        ForgeHeats shop = Shops.withStock(2);
        shop.job(0, 0, 1, 5, false);
        CHECK.same("the first minute", shop.pass(1), 0);
        billet("a billet comes cold", shop, 0, 0, 20, 0, 3);
        CHECK.same("stock less", shop.heat(0, 0), 1);
        for (int minute = 2; minute <= 8; minute++) {
            CHECK.same("minute " + minute, shop.pass(1), 0);
            billet("warming", shop, 0, 0, 20 + 150 * (minute - 1), 0, 3);
        }
        shop.pass(1);
        billet("hot enough, on the press", shop, 6, 0, 1220, 0, 3);
        billet("its place is free", shop, 0, -1);
        CHECK.same("no blow yet", shop.count(6), 0);
        CHECK.same("no other billet came", shop.heat(0, 0), 1);
        shop.pass(1);
        billet("the first blow", shop, 6, 0, 1180, 0, 2);
        CHECK.same("one blow", shop.count(6), 1);
        CHECK.same("wear 1", shop.dieOf(0, 2), 1);
        CHECK.same("two minutes, a piece", shop.pass(2), 1);
        billet("the press is free", shop, 6, -1, -1, -1, -1);
        CHECK.same("wear 3", shop.dieOf(0, 2), 3);
        CHECK.same("the job is gone", shop.jobOf(0, 0), -1);
        int[] counts = {12, 0, 0, 0, 1, 0, 3, 1, 1, 7, -1, 5};
        for (int what = 0; what < 11; what++) {
            CHECK.same("count " + what, shop.count(what), counts[what]);
        }
        CHECK.same("made of the heat", shop.heat(0, 4), 1);
        CHECK.same("made with the die", shop.dieOf(0, 4), 1);
        CHECK.same("not of another heat", shop.heat(1, 4), 0);
        CHECK.same("not with another die", shop.dieOf(1, 4), 0);
    }

    private static void lateness() {
        int[] dues = {11, 12, 13, 0};
        int[] late = {1, 0, 0, 12};
        for (int index = 0; index < dues.length; index++) {
            ForgeHeats shop = Shops.withLoadedPress(dues[index]);
            shop.pass(3);
            CHECK.same("gone, due " + dues[index], shop.count(7), 1);
            CHECK.same("late, due " + dues[index], shop.count(8), late[index] > 0 ? 1 : 0);
            CHECK.same("late by, due " + dues[index], shop.count(9), late[index]);
        }
    }

    private static void warmingEnds() {
        ForgeHeats shop = Shops.withStock(1);
        shop.range(0, 600, 1240);
        shop.set(0, 300);
        shop.job(0, 0, 1, 0, false);
        shop.pass(5);
        billet("not yet hot enough", shop, 0, 0, 1220);
        shop.pass(1);
        billet("not warmer than 1250", shop, 6, 0, 1250);
    }

    /** The wear behind a piece of 3 blows that is 1220, 1220 - cooling, .. degrees hot. */
    private static int wear(int low, int high, int cooling) {
        ForgeHeats shop = Shops.withStock(1);
        shop.range(0, low, high);
        shop.set(1, cooling);
        shop.set(2, 0);
        shop.job(0, 0, 1, 0, false);
        shop.pass(12);
        return shop.count(4) == 1 ? shop.dieOf(0, 2) : -shop.dieOf(0, 2);
    }

    private static void wearOfCold() {
        CHECK.same("98 degrees colder", wear(900, 1100, 109), 3);
        CHECK.same("99 degrees colder", wear(900, 1101, 109), 3);
        CHECK.same("100 degrees colder", wear(900, 1100, 110), 4);
        CHECK.same("as hot as the high temperature", wear(900, 1100, 60), 3);
        CHECK.same("as cold as the low temperature", wear(1000, 1100, 110), 4);
        CHECK.same("colder than it: scrap", wear(1001, 1100, 110), -2);
        CHECK.same("180 and 380 degrees colder", wear(700, 1200, 200), 1 + 2 + 4);
    }

    private static void back() {
        ForgeHeats shop = Shops.withStock(1);
        shop.range(0, 900, 1200);
        shop.set(1, 200);
        shop.job(0, 0, 1, 0, false);
        shop.pass(11);
        billet("too cold now", shop, 6, 0, 820, 0, 1);
        CHECK.same("wear before", shop.dieOf(0, 2), 3);
        shop.pass(1);
        billet("back in the furnace", shop, 0, 0, 820, 1, 1);
        billet("the press is free", shop, 6, -1);
        CHECK.same("no wear by going back", shop.dieOf(0, 2), 3);
        CHECK.same("no scrap", shop.count(5), 0);
        shop.pass(3);
        billet("on the press again", shop, 6, 0, 1250, 1, 1);
        CHECK.same("a piece at last", shop.pass(1), 1);
        CHECK.same("four minutes of wear", shop.dieOf(0, 2), 4);
    }

    private static void scrapByReheats() {
        int[] minutes = {12, 18, 24, 30};
        for (int reheats = 0; reheats <= 3; reheats++) {
            ForgeHeats shop = Shops.withStock(1);
            shop.range(0, 900, 1200);
            shop.die(0, 9, 300);
            shop.set(1, 200);
            shop.set(2, reheats);
            shop.job(0, 0, 1, 0, false);
            // Each time it takes 3 minutes to the press, 2 for blows, and 1 to go back.
            shop.pass(11);
            for (int again = 0; again < reheats; again++) {
                shop.pass(1);
                billet("heated again", shop, 0, 0, again == 0 ? 820 : 850, again + 1);
                shop.pass(3);
                billet("on the press again", shop, 6, 0, 1250, again + 1);
                shop.pass(2);
            }
            CHECK.same("no scrap yet, reheats " + reheats, shop.count(5), 0);
            shop.pass(1);
            CHECK.same("scrap, reheats " + reheats, shop.count(5), 1);
            CHECK.same("scrap of the heat", shop.heat(0, 5), 1);
            CHECK.same("no billet left", shop.heat(0, 3), 0);
            CHECK.same("its job lacks one", shop.heat(0, 6), 1);
            CHECK.same("its job is there", shop.count(1), 1);
            CHECK.same("in time, reheats " + reheats, shop.count(0), minutes[reheats]);
            shop.stock(0, 1);
            shop.pass(1);
            billet("another billet in its stead", shop, 0, 0, 20, 0, 9);
        }
    }

    private static void scrapByFullFurnace() {
        ForgeHeats shop = Shops.withStock(20);
        shop.range(0, 1200, 1200);
        shop.set(1, 200);
        shop.set(2, 3);
        shop.job(0, 0, 10, 0, false);
        shop.pass(9);
        CHECK.same("five in the furnace", shop.count(3), 5);
        shop.pass(1);
        billet("one blow", shop, 6, 0, 1020, 0, 2);
        billet("the free place is taken first", shop, 0, 0, 20, 0, 3);
        shop.pass(1);
        CHECK.same("no place: scrap", shop.count(5), 1);
        CHECK.same("six in the furnace", shop.count(3), 6);
        billet("nothing is put on the press in that minute", shop, 6, -1);
        shop.pass(1);
        billet("but in the next", shop, 6, 0, 1250, 0, 3);
        billet("from the lowest of two that are as hot", shop, 1, -1);
    }

    private static void wornDie() {
        ForgeHeats shop = Shops.withStock(10);
        shop.range(0, 600, 600);
        shop.die(0, 9, 10);
        shop.set(1, 1);
        shop.set(3, 2);
        shop.job(0, 0, 2, 0, false);
        shop.pass(5);
        billet("620 degrees are enough", shop, 6, 0, 620);
        CHECK.same("nine blows, a piece", shop.pass(9), 1);
        CHECK.same("wear 9", shop.dieOf(0, 2), 9);
        shop.pass(2);
        CHECK.same("wear 10", shop.dieOf(0, 2), 10);
        CHECK.same("it begins to be ground", shop.dieOf(0, 3), 2);
        billet("the billet is on the press", shop, 6, 0, 1249, 0, 8);
        CHECK.same("why it waits", shop.jobOf(0, 7), 0);
        shop.pass(1);
        billet("it goes back", shop, 0, 0, 1249, 1, 8);
        CHECK.same("minutes to go", shop.dieOf(0, 3), 1);
        CHECK.same("limit as before", shop.dieOf(0, 1), 10);
        shop.pass(1);
        billet("not on the press while it is ground", shop, 6, -1);
        CHECK.same("ground once", shop.dieOf(0, 5), 1);
        shop.pass(1);
        billet("on the press again", shop, 6, 0, 1250, 1, 8);
        CHECK.same("the second piece", shop.pass(8), 1);
    }

    private static void wornWhileAnotherIsGround() {
        ForgeHeats shop = Shops.withStock(10);
        shop.range(0, 600, 600);
        shop.die(0, 5, 10);
        shop.set(1, 1);
        shop.set(3, 30);
        shop.grind(4);
        shop.job(0, 0, 3, 0, false);
        CHECK.same("two pieces", shop.pass(16), 2);
        CHECK.same("worn out by as much as its limit", shop.dieOf(0, 2), 10);
        CHECK.same("its turn is not yet", shop.dieOf(0, 3), 0);
        shop.pass(1);
        billet("nothing for a worn die", shop, 6, -1);
    }

    private static void wornUnderBillet() {
        ForgeHeats shop = Shops.withStock(2);
        shop.range(0, 600, 600);
        shop.die(0, 8, 10);
        shop.set(1, 1);
        shop.set(3, 30);
        shop.grind(4);
        shop.job(0, 0, 2, 0, false);
        shop.pass(16);
        billet("two blows", shop, 6, 0, 1248, 0, 6);
        CHECK.same("wear 10 of 10", shop.dieOf(0, 2), 10);
        shop.pass(1);
        billet("no third one", shop, 6, -1);
        billet("back in the furnace", shop, 0, 0, 1248, 1, 6);
        CHECK.same("its turn is not yet", shop.dieOf(0, 3), 0);
    }

    private static void grindingInTurn() {
        ForgeHeats shop = twoWornDies();
        CHECK.same("die 1 is worn out", shop.dieOf(1, 2), 13);
        CHECK.same("die 2 is worn out", shop.dieOf(2, 2), 13);
        CHECK.same("die 4 is still ground", shop.count(10), 4);
        CHECK.same("one minute to go", shop.dieOf(4, 3), 1);
        shop.pass(1);
        CHECK.same("the lowest worn die begins", shop.count(10), 1);
        CHECK.same("with the whole time", shop.dieOf(1, 3), 30);
        CHECK.same("and no other one", shop.dieOf(2, 3), 0);
        CHECK.same("limit of die 4", shop.dieOf(4, 1), 55);
        shop.pass(30);
        CHECK.same("then the next one", shop.count(10), 2);
        CHECK.same("no wear", shop.dieOf(1, 2), 0);
        CHECK.same("limit not below 10", shop.dieOf(1, 1), 10);
        CHECK.same("the other one still worn", shop.dieOf(2, 2), 13);
        shop.pass(30);
        CHECK.same("then none", shop.count(10), -1);
        CHECK.same("ground once", shop.dieOf(2, 5), 1);
    }

    /** Behind 29 minutes: die 4 is ground for one minute more, dies 1 and 2 are worn out. */
    private static ForgeHeats twoWornDies() {
        ForgeHeats shop = Shops.withStock(3);
        shop.range(0, 600, 1240);
        shop.set(0, 300);
        shop.set(1, 200);
        shop.set(3, 30);
        shop.die(1, 4, 10);
        shop.die(2, 4, 10);
        shop.job(2, 0, 1, 0, false);
        shop.job(1, 0, 1, 5, false);
        shop.grind(4);
        CHECK.same("four blows behind six minutes", shop.pass(10), 1);
        CHECK.same("and four more", shop.pass(5), 1);
        shop.pass(14);
        return shop;
    }

    private static void otherDieWhileGrinding() {
        ForgeHeats shop = Shops.withStock(2);
        shop.job(0, 0, 1, 0, false);
        shop.job(1, 0, 1, 5, false);
        shop.set(3, 30);
        shop.grind(0);
        shop.pass(9);
        billet("its die is being ground", shop, 6, -1);
        shop.pass(1);
        billet("the next job's die is not", shop, 6, 1, 1220);
        CHECK.same("that job's piece", shop.pass(3), 1);
        shop.pass(16);
        billet("still being ground", shop, 6, -1);
        shop.pass(1);
        billet("ground in this minute, too late for the press", shop, 6, -1);
        shop.pass(1);
        billet("in the next one", shop, 6, 0, 1250);
    }

    private static void charging() {
        ForgeHeats shop = new ForgeHeats();
        shop.stock(1, 2);
        shop.stock(2, 9);
        shop.job(0, 0, 5, 0, true);
        shop.job(1, 1, 5, 3, false);
        shop.job(2, 2, 1, 9, false);
        shop.job(3, 2, 5, 10, false);
        shop.pass(5);
        int[] jobs = {1, 1, 2, 3, 3, -1};
        for (int place = 0; place < jobs.length; place++) {
            billet("the first that lacks and has stock", shop, place, jobs[place]);
        }
        CHECK.same("stock of heat 1", shop.heat(1, 0), 0);
        CHECK.same("stock of heat 2", shop.heat(2, 0), 6);
        shop.die(3, 9, 100);
        shop.pass(3);
        billet("the blows of the changed die", shop, 5, 3, 320, 0, 9);
        billet("the blows of the die before", shop, 4, 3, 470, 0, 3);
        CHECK.same("a full furnace", shop.heat(2, 0), 5);
        shop.cancel(1);
        shop.rush(0, false);
        shop.stock(0, 1);
        shop.pass(1);
        billet("the lowest free place", shop, 0, 0, 20, 0, 3);
    }

    private static void hottest() {
        ForgeHeats shop = Shops.withStock(9);
        shop.range(0, 600, 1240);
        shop.job(0, 0, 1, 0, false);
        shop.job(1, 0, 3, 1, false);
        shop.pass(2);
        shop.cancel(0);
        shop.pass(8);
        billet("came later to place 0", shop, 0, 1, 1070);
        billet("came earlier to place 1", shop, 1, 1, 1220);
        shop.range(0, 600, 1000);
        shop.pass(1);
        billet("the hottest, not the lowest", shop, 6, 1, 1250);
        billet("the lowest stays", shop, 0, 1, 1220);
        shop.pass(3);
        shop.job(2, 0, 1, 2, true);
        shop.pass(1);
        billet("a rush job without a hot billet is passed over", shop, 6, 1, 1250);
        billet("of two as hot the lowest went", shop, 0, -1);
    }

    private static void orderOnPress() {
        ForgeHeats shop = Shops.withStock(2);
        shop.range(0, 600, 1240);
        shop.job(0, 0, 1, 0, false);
        shop.job(1, 0, 1, 5, false);
        shop.pass(9);
        shop.range(0, 600, 1100);
        shop.rush(1, true);
        shop.pass(1);
        billet("the first job by the order, though colder", shop, 6, 1, 1220);
        billet("the hotter one waits", shop, 0, 0, 1250);
        CHECK.same("exactly as hot as needed", exact(20 + 150 * 8), 0);
        CHECK.same("a degree too cold", exact(20 + 150 * 8 + 1), -1);
    }

    /** The job on the press behind nine minutes, if the high temperature is so. */
    private static int exact(int high) {
        ForgeHeats shop = Shops.withStock(1);
        shop.range(0, 600, high);
        shop.job(0, 0, 1, 0, false);
        shop.pass(9);
        return shop.billet(6, 0);
    }

    private static void limits() {
        ForgeHeats shop = new ForgeHeats();
        CHECK.refused("0 minutes", shop, IllegalArgumentException.class, () -> shop.pass(0));
        CHECK.refused("-1 minutes", shop, IllegalArgumentException.class, () -> shop.pass(-1));
        CHECK.refused("121 minutes", shop, IllegalArgumentException.class, () -> shop.pass(121));
        for (int call = 0; call < 83; call++) {
            CHECK.same("120 minutes", shop.pass(120), 0);
        }
        CHECK.refused("beyond 9999", shop, IllegalStateException.class, () -> shop.pass(40));
        CHECK.refused("minutes before state", shop, IllegalArgumentException.class, () -> shop.pass(121));
        shop.pass(39);
        CHECK.same("9999 minutes", shop.count(0), 9999);
        CHECK.refused("one more", shop, IllegalStateException.class, () -> shop.pass(1));
        ForgeHeats other = Shops.busy();
        CHECK.undoable("pass", other, () -> other.pass(120));
        CHECK.same("minutes behind it", other.count(0), 157);
    }

    public static void main(String[] args) {
        onePiece();
        lateness();
        warmingEnds();
        wearOfCold();
        back();
        scrapByReheats();
        scrapByFullFurnace();
        wornDie();
        wornWhileAnotherIsGround();
        wornUnderBillet();
        grindingInTurn();
        otherDieWhileGrinding();
        charging();
        hottest();
        orderOnPress();
        limits();
        CHECK.end();
    }
}
