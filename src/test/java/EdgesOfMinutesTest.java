/** Promise 10 and the document's "A minute": each boundary that they name, tried on both sides of it. */
public final class EdgesOfMinutesTest {
    private static final Check CHECK = new Check("EdgesOfMinutesTest");

    private static void billet(String what, ForgeHeats shop, int place, int... properties) {
        for (int index = 0; index < properties.length; index++) {
            CHECK.same(what + ", place " + place + ", property " + index,
                shop.billet(place, index), properties[index]);
        }
    }

    private static void nothingAt(String what, ForgeHeats shop, int place) {
        CHECK.same(what + ", nothing at place " + place, shop.billet(place, 0), ForgeHeats.NONE);
    }

    // ---- the call

    /** "minutes: 1 to 120", "Throws IllegalArgumentException if minutes is out of range". */
    private static void minutesOfPass() {
        int[] right = {1, 120};
        for (int minutes : right) {
            ForgeHeats shop = new ForgeHeats();
            CHECK.same("no piece in " + minutes, shop.pass(minutes), 0);
            CHECK.same(minutes + " have gone", shop.count(0), minutes);
        }
        int[] wrong = {0, 121, -1, 9999, Integer.MIN_VALUE, Integer.MAX_VALUE};
        for (int minutes : wrong) {
            CHECK.asIfNotMade("pass of " + minutes, ForgeHeats::new, Check.ARGUMENT, shop -> shop.pass(minutes));
            CHECK.asIfNotMade("pass of " + minutes, Shops::busy, Check.ARGUMENT, shop -> shop.pass(minutes));
        }
    }

    /** "Throws IllegalStateException if more than 9999 minutes would have gone". */
    private static void theLastMinute() {
        ForgeHeats one = Shops.beforeTheLastMinute(1);
        CHECK.same("9998 have gone", one.count(0), 9998);
        one.pass(1);
        CHECK.same("9999 have gone", one.count(0), 9999);
        CHECK.asIfNotMade("the minute behind it", () -> Shops.beforeTheLastMinute(0), Check.STATE,
            shop -> shop.pass(1));
        CHECK.asIfNotMade("two with one left", () -> Shops.beforeTheLastMinute(1), Check.STATE,
            shop -> shop.pass(2));
        ForgeHeats many = Shops.beforeTheLastMinute(120);
        many.pass(120);
        CHECK.same("all of 120 left", many.count(0), 9999);
        CHECK.asIfNotMade("120 with 119 left", () -> Shops.beforeTheLastMinute(119), Check.STATE,
            shop -> shop.pass(120));
        one.undo();
        one.pass(1);
        CHECK.same("an undone minute can pass again", one.count(0), 9999);
    }

    /** "If several exceptions apply, the one that is named first in the throws clause is thrown." */
    private static void passRefusedInOrder() {
        CHECK.asIfNotMade("121 beyond the last", () -> Shops.beforeTheLastMinute(0), Check.ARGUMENT,
            shop -> shop.pass(121));
        CHECK.asIfNotMade("all that can be", () -> Shops.beforeTheLastMinute(0), Check.ARGUMENT,
            shop -> shop.pass(Integer.MAX_VALUE));
        CHECK.asIfNotMade("none behind the last", () -> Shops.beforeTheLastMinute(0), Check.ARGUMENT,
            shop -> shop.pass(0));
    }

    /** "Returns how many pieces are made in them": none before its minute, and none twice. */
    private static void piecesOfPass() {
        CHECK.same("a minute too few", Shops.withLoadedPress(0).pass(2), 0);
        ForgeHeats shop = Shops.withLoadedPress(0);
        CHECK.same("the very minute", shop.pass(3), 1);
        CHECK.same("not again", shop.pass(120), 0);
    }

    // ---- 1. the furnace

    /** "Each billet in the furnace becomes warmer by setting 0 degrees": 10 to 300 of them. */
    private static void warming() {
        int[] settings = {10, 300};
        for (int degrees : settings) {
            ForgeHeats shop = Shops.withFullFurnace();
            shop.set(0, degrees);
            int[] before = new int[6];
            for (int place = 0; place < 6; place++) {
                before[place] = shop.billet(place, 1);
            }
            shop.pass(1);
            for (int place = 0; place < 6; place++) {
                CHECK.same("warmer by " + degrees, shop.billet(place, 1), before[place] + degrees);
            }
        }
    }

    /** "but not warmer than 1250". */
    private static void warmingEnds() {
        int[] last = {29, 30, 31, 300};
        int[] then = {1249, 1250, 1250, 1250};
        for (int index = 0; index < last.length; index++) {
            ForgeHeats shop = with1220InFurnace();
            shop.set(0, last[index]);
            shop.pass(1);
            CHECK.same("1220 and " + last[index], shop.billet(0, 1), then[index]);
            shop.set(0, 10);
            shop.pass(1);
            CHECK.same("and 10", shop.billet(0, 1), 1250);
        }
    }

    /** A billet of 1220 degrees that stays in the furnace, its die being ground. */
    private static ForgeHeats with1220InFurnace() {
        ForgeHeats shop = Shops.withStock(1);
        shop.set(0, 100);
        shop.set(3, 30);
        shop.grind(0);
        shop.job(0, 0, 1, 0, false);
        shop.pass(13);
        CHECK.same("hot, but not on the press", shop.billet(0, 1), 1220);
        return shop;
    }

    /** The billet on the press does not become warmer. */
    private static void noWarmingOnPress() {
        ForgeHeats shop = Shops.with600OnPress(3, 0);
        shop.pass(1);
        CHECK.same("only colder, by the blow", shop.billet(6, 1), 560);
    }

    // ---- 2. a billet comes

    /** "If the furnace has a free place": the sixth billet comes, a seventh does not. */
    private static void freePlaces() {
        ForgeHeats shop = Shops.withStock(9);
        shop.set(3, 30);
        shop.grind(0);
        shop.job(0, 0, 9, 0, false);
        for (int place = 0; place < 6; place++) {
            nothingAt("not yet", shop, place);
            shop.pass(1);
            billet("one a minute", shop, place, 0, 20, 0, 3);
        }
        CHECK.same("a full furnace", shop.count(3), 6);
        CHECK.same("six of the stock", shop.heat(0, 0), 3);
        shop.pass(1);
        CHECK.same("no more than six", shop.count(3), 6);
        CHECK.same("and no more of the stock", shop.heat(0, 0), 3);
    }

    /** "whose heat has stock": the last billet of it comes, and none without it. */
    private static void lastOfTheStock() {
        ForgeHeats shop = Shops.withStock(1);
        shop.job(0, 0, 2, 0, false);
        shop.pass(1);
        CHECK.same("the last billet", shop.count(3), 1);
        CHECK.same("no stock", shop.heat(0, 0), 0);
        shop.pass(1);
        CHECK.same("no other one", shop.count(3), 1);
        CHECK.same("and not less than none", shop.heat(0, 0), 0);
        shop.stock(1, 9);
        shop.pass(1);
        CHECK.same("none of another heat", shop.count(3), 1);
        CHECK.same("whose stock stays", shop.heat(1, 0), 9);
    }

    /** "A job lacks billets if ... together fewer than its pieces": with as many it does not. */
    private static void noMoreThanLacking() {
        ForgeHeats shop = Shops.withStock(9);
        shop.job(0, 0, 2, 0, false);
        shop.pass(2);
        CHECK.same("two for two pieces", shop.heat(0, 0), 7);
        CHECK.same("none lacks", shop.heat(0, 6), 0);
        shop.pass(7);
        billet("one on the press", shop, 6, 0);
        CHECK.same("which counts", shop.heat(0, 0), 7);
        shop.pass(3);
        CHECK.same("one made", shop.jobOf(0, 4), 1);
        CHECK.same("which counts, too", shop.heat(0, 0), 7);
        shop.pass(4);
        CHECK.same("both made of two", shop.count(4), 2);
        CHECK.same("and no more taken", shop.heat(0, 0), 7);
    }

    /** A billet that became scrap is lacking again, one that went back is not. */
    private static void lackBehindGoingBack() {
        ForgeHeats back = tooColdOnPress(1);
        back.stock(0, 5);
        back.pass(2);
        CHECK.same("back, so none lacks", back.heat(0, 0), 5);
        ForgeHeats scrap = tooColdOnPress(0);
        scrap.stock(0, 5);
        scrap.pass(1);
        CHECK.same("scrap in this minute", scrap.heat(0, 6), 1);
        CHECK.same("whose step 2 was before", scrap.heat(0, 0), 5);
        scrap.pass(1);
        CHECK.same("another one in the next", scrap.heat(0, 0), 4);
    }

    /** A billet at 600 degrees on the press, whose low temperature is 601 by now. */
    private static ForgeHeats tooColdOnPress(int reheats) {
        ForgeHeats shop = Shops.with600OnPress(3, 0);
        shop.set(2, reheats);
        shop.range(0, 601, 601);
        return shop;
    }

    /** "the first job by the order that lacks billets and whose heat has stock". */
    private static void whichJobGetsOne() {
        ForgeHeats shop = new ForgeHeats();
        shop.stock(1, 1);
        shop.stock(2, 9);
        shop.job(0, 0, 1, 0, true);
        shop.job(1, 1, 1, 0, false);
        shop.job(2, 2, 2, 1, false);
        shop.job(3, 2, 1, 2, false);
        int[] jobs = {1, 2, 2, 3};
        for (int place = 0; place < jobs.length; place++) {
            shop.pass(1);
            billet("by the order", shop, place, jobs[place]);
        }
        shop.pass(1);
        nothingAt("no job lacks and has stock", shop, 4);
        shop.stock(0, 1);
        shop.pass(1);
        billet("the first one has stock by now", shop, 4, 0);
    }

    /** "a billet of 20 degrees comes to the lowest free place, heated again 0 times". */
    private static void newBillet() {
        ForgeHeats shop = Shops.withFullFurnace();
        shop.job(1, 0, 1, 1, false);
        shop.rush(1, true);
        shop.cancel(0);
        shop.pass(1);
        billet("the lowest of six, as it comes", shop, 0, 1, 20, 0, 3);
        shop.pass(1);
        billet("warmer from the next minute on", shop, 0, 1, 170, 0, 3);
        CHECK.same("at one place alone", shop.count(3), 1);
    }

    /** "heated again 0 times", also where a billet lay that was heated again. */
    private static void newBilletInAnUsedPlace() {
        ForgeHeats shop = Shops.withLoadedPress(0);
        shop.set(3, 1);
        shop.grind(0);
        shop.pass(1);
        billet("back at place 0", shop, 0, 0, 1220, 1, 3);
        shop.pass(1);
        billet("on the press again", shop, 6, 0, 1250, 1, 3);
        shop.stock(0, 1);
        shop.die(1, 7, 60);
        shop.job(1, 0, 1, 5, false);
        shop.pass(1);
        billet("a new one at its place", shop, 0, 1, 20, 0, 7);
    }

    /** The lowest free place may lie between others, or be the last one. */
    private static void lowestFreePlace() {
        ForgeHeats shop = Shops.withStock(20);
        shop.set(3, 30);
        shop.grind(0);
        for (int number = 0; number < 6; number++) {
            shop.job(0, 0, 1, number, false);
        }
        shop.pass(6);
        shop.cancel(3);
        shop.cancel(5);
        shop.job(0, 0, 2, 9, false);
        shop.pass(1);
        billet("place 3 before place 5", shop, 3, 6, 20);
        nothingAt("that one later", shop, 5);
        shop.pass(1);
        billet("then the last place", shop, 5, 6, 20);
        billet("the others stayed", shop, 4, 4);
    }

    /** "with the blows that a piece of its die needs": 1 to 9. */
    private static void blowsOfNewBillets() {
        int[] all = {1, 2, 9};
        for (int blows : all) {
            ForgeHeats shop = needing(blows);
            billet("on the press", shop, 6, 0, 1220, 0, blows);
            CHECK.same("a blow too few", blows > 1 ? shop.pass(blows - 1) : 0, 0);
            CHECK.same("the last blow", shop.pass(1), 1);
            CHECK.same("blows so far", shop.count(6), blows);
            nothingAt("the press is free", shop, 6);
        }
    }

    /** A billet of 1220 degrees on the press that cools little and needs so many blows. */
    private static ForgeHeats needing(int blows) {
        ForgeHeats shop = Shops.withStock(1);
        shop.die(0, blows, 300);
        shop.set(1, 1);
        shop.job(0, 0, 1, 0, false);
        shop.pass(9);
        return shop;
    }

    public static void main(String[] args) {
        minutesOfPass();
        theLastMinute();
        passRefusedInOrder();
        piecesOfPass();
        warming();
        warmingEnds();
        noWarmingOnPress();
        freePlaces();
        lastOfTheStock();
        noMoreThanLacking();
        lackBehindGoingBack();
        whichJobGetsOne();
        newBillet();
        newBilletInAnUsedPlace();
        lowestFreePlace();
        blowsOfNewBillets();
        CHECK.end();
    }
}
