/** The document's "A minute", 3 and 4, and "To go back": each boundary that they name, tried on both sides of it. */
public final class EdgesOfPressTest {
    private static final Check CHECK = new Check("EdgesOfPressTest");

    private static void billet(String what, ForgeHeats shop, int place, int... properties) {
        for (int index = 0; index < properties.length; index++) {
            CHECK.same(what + ", place " + place + ", property " + index,
                shop.billet(place, index), properties[index]);
        }
    }

    private static void nothingAt(String what, ForgeHeats shop, int place) {
        CHECK.same(what + ", nothing at place " + place, shop.billet(place, 0), ForgeHeats.NONE);
    }

    /** Keeps the grinder busy with die 4, so that no worn die begins to be ground. */
    private static void occupyGrinder(ForgeHeats shop) {
        shop.set(3, 30);
        shop.grind(4);
    }

    // ---- 3. a billet on the press

    /** "or it is colder than the low temperature of its heat": as cold is not colder. */
    private static void asColdAsTheLow() {
        ForgeHeats shop = Shops.with600OnPress(3, 0);
        shop.range(0, 600, 1240);
        shop.pass(1);
        billet("a blow at 600 of 600", shop, 6, 0, 560, 0, 2);
        ForgeHeats colder = Shops.with600OnPress(3, 0);
        colder.range(0, 601, 601);
        colder.pass(1);
        nothingAt("back at 600 of 601", colder, 6);
        billet("in the furnace", colder, 0, 0, 600, 1, 3);
        CHECK.same("without a blow", colder.count(6), 0);
        CHECK.same("and without wear", colder.dieOf(0, 2), 0);
    }

    /** "the degrees by which the billet is colder than the high temperature ... divided by 100", rounded down. */
    private static void wearByCold() {
        int[] degrees = {0, 1, 99, 100, 101, 199, 200, 299, 300, 599, 600, 640};
        int[] wear = {1, 1, 1, 2, 2, 2, 3, 3, 4, 6, 7, 7};
        for (int index = 0; index < degrees.length; index++) {
            ForgeHeats shop = Shops.with600OnPress(3, 0);
            shop.range(0, 600, 600 + degrees[index]);
            shop.pass(1);
            CHECK.same("wear at " + degrees[index] + " degrees colder", shop.dieOf(0, 2), wear[index]);
            CHECK.same("one blow for all that", shop.count(6), 1);
            CHECK.same("no wear of another die", shop.dieOf(1, 2), 0);
        }
    }

    /** "(0 if it is not)": a billet that is hotter wears as one that is as hot. */
    private static void wearByHotter() {
        int[] highs = {1220, 1219, 1121, 1120, 1119, 900};
        for (int high : highs) {
            ForgeHeats shop = Shops.withLoadedPress(0);
            shop.range(0, 900, high);
            shop.pass(1);
            CHECK.same("wear at 1220 of " + high, shop.dieOf(0, 2), 1);
        }
    }

    /**
     * "the billet becomes colder by setting 1": 1 to 200 degrees. (That it becomes "not colder than 20" cannot
     * be seen: a billet below the low temperature, which is at least 600, gets no blow.)
     */
    private static void cooling() {
        int[] settings = {1, 200};
        for (int degrees : settings) {
            ForgeHeats shop = Shops.with600OnPress(3, 0);
            shop.set(1, degrees);
            shop.pass(1);
            billet("colder by " + degrees, shop, 6, 0, 600 - degrees, 0, 2);
        }
    }

    /** "It is worn out if its wear is at least its limit": a die at its limit makes no blow. */
    private static void dieAtItsLimit() {
        ForgeHeats worn = withWearOf10(10);
        CHECK.same("the limit is 10", worn.dieOf(0, 1), 10);
        worn.pass(1);
        nothingAt("back from the press", worn, 6);
        CHECK.same("wear as before", worn.dieOf(0, 2), 10);
        CHECK.same("blows as before", worn.count(6), 4);
        ForgeHeats notYet = withWearOf10(11);
        notYet.pass(1);
        billet("one blow more", notYet, 6, 0, 620, 0, 4);
        CHECK.same("far above the limit", notYet.dieOf(0, 2), 16);
        notYet.pass(1);
        nothingAt("and then no more", notYet, 6);
        CHECK.same("the wear stays", notYet.dieOf(0, 2), 16);
    }

    /** Die 0 of this limit has a wear of 10 by four blows, and a billet of 740 degrees on the press needs five more. */
    private static ForgeHeats withWearOf10(int limit) {
        ForgeHeats shop = Shops.withStock(1);
        shop.range(0, 600, 1220);
        shop.die(0, 9, limit);
        shop.set(1, 120);
        shop.job(0, 0, 1, 0, false);
        shop.pass(8);
        occupyGrinder(shop);
        shop.pass(1);
        shop.range(0, 600, 1240);
        shop.pass(4);
        billet("four blows", shop, 6, 0, 740, 0, 5);
        CHECK.same("their wear", shop.dieOf(0, 2), 1 + 2 + 3 + 4);
        return shop;
    }

    /** "if its die is worn out or being ground": also in the last minute of grinding. */
    private static void dieBeingGround() {
        ForgeHeats shop = Shops.withLoadedPress(0);
        shop.set(3, 1);
        shop.grind(0);
        shop.pass(1);
        nothingAt("ground for this minute", shop, 6);
        billet("so it goes back", shop, 0, 0, 1220, 1, 3);
        CHECK.same("no longer being ground", shop.count(10), ForgeHeats.NONE);
        ForgeHeats other = Shops.withLoadedPress(0);
        other.grind(1);
        other.pass(1);
        billet("another die does not matter", other, 6, 0, 1180, 0, 2);
    }

    /** "If it needs none more, the piece is made, and the press is free." */
    private static void lastBlow() {
        ForgeHeats two = Shops.withLoadedPress(0);
        two.pass(2);
        billet("one more needed", two, 6, 0, 1140, 0, 1);
        CHECK.same("no piece", two.count(4), 0);
        two.pass(1);
        nothingAt("none more needed", two, 6);
        CHECK.same("a piece", two.count(4), 1);
        CHECK.same("of its heat", two.heat(0, 4), 1);
        CHECK.same("with its die", two.dieOf(0, 4), 1);
        ForgeHeats one = Shops.with600OnPress(1, 0);
        CHECK.same("a piece of one blow", one.pass(1), 1);
        nothingAt("the press is free", one, 6);
    }

    /** "If the job has all its pieces then, it is gone": one piece before, it is there. */
    private static void lastPiece() {
        ForgeHeats shop = Shops.withStock(3);
        shop.job(0, 0, 3, 9999, false);
        shop.pass(16);
        CHECK.same("two of three", shop.jobOf(0, 4), 2);
        CHECK.same("the job is there", shop.count(1), 1);
        CHECK.same("none is gone", shop.count(7), 0);
        shop.pass(4);
        CHECK.same("three of three", shop.count(4), 3);
        CHECK.same("no job", shop.count(1), 0);
        CHECK.same("nothing at its place", shop.jobOf(0, 0), ForgeHeats.NONE);
        CHECK.same("one is gone", shop.count(7), 1);
    }

    /** "late by the minutes that have gone, this one included, less its due minute, if that is above 0". */
    private static void lateness() {
        int[] dues = {0, 3, 4, 5, 9999};
        int[] late = {4, 1, 0, 0, 0};
        for (int index = 0; index < dues.length; index++) {
            ForgeHeats shop = Shops.with600OnPress(1, dues[index]);
            shop.pass(1);
            CHECK.same("made in minute 4", shop.count(0), 4);
            CHECK.same("gone, due " + dues[index], shop.count(7), 1);
            CHECK.same("late ones, due " + dues[index], shop.count(8), late[index] > 0 ? 1 : 0);
            CHECK.same("late by, due " + dues[index], shop.count(9), late[index]);
        }
    }

    /** A job can be late by 9999 minutes, and in the last minute it is not late if it is due then. */
    private static void lateInTheLastMinute() {
        int[] dues = {0, 9998, 9999};
        int[] late = {9999, 1, 0};
        for (int index = 0; index < dues.length; index++) {
            ForgeHeats shop = Shops.beforeTheLastMinute(4);
            shop.stock(0, 1);
            shop.range(0, 600, 600);
            shop.die(0, 1, 60);
            shop.set(0, 290);
            shop.job(0, 0, 1, dues[index], false);
            CHECK.same("a piece in the last minute", shop.pass(4), 1);
            CHECK.same("late by, due " + dues[index], shop.count(9), late[index]);
        }
    }

    // ---- 3. an empty press

    /** "at least as hot as the high temperature of its heat". */
    private static void asHotAsTheHigh() {
        int[] highs = {600, 601};
        for (int high : highs) {
            ForgeHeats shop = Shops.withStock(1);
            shop.range(0, 600, high);
            shop.set(0, 290);
            shop.job(0, 0, 1, 0, false);
            shop.pass(2);
            nothingAt("310 degrees", shop, 6);
            shop.pass(1);
            CHECK.same("600 of " + high, shop.billet(6, 0), high == 600 ? 0 : -1);
            shop.pass(1);
            CHECK.same("a minute later", shop.billet(6, 0), 0);
            CHECK.same("a blow by then", shop.count(6), high == 600 ? 1 : 0);
        }
    }

    /** "If the press had no billet": in the minute in which it becomes free it gets none. */
    private static void pressThatBecomesFree() {
        ForgeHeats made = Shops.withStock(2);
        made.job(0, 0, 2, 0, false);
        made.pass(12);
        nothingAt("a piece is made", made, 6);
        billet("the next is hot", made, 1, 0, 1250);
        made.pass(1);
        billet("and comes a minute later", made, 6, 0, 1250);
        ForgeHeats back = Shops.withStock(2);
        back.job(0, 0, 1, 0, false);
        back.job(1, 0, 1, 1, false);
        back.pass(10);
        back.set(3, 1);
        back.grind(0);
        back.pass(1);
        nothingAt("a billet goes back", back, 6);
        billet("the other is hot", back, 1, 1, 1250);
        back.rush(1, true);
        back.pass(1);
        billet("and comes a minute later", back, 6, 1, 1250);
    }

    /** A billet that is put on the press gets its first blow in the next minute. */
    private static void noBlowWhenItComes() {
        ForgeHeats shop = Shops.with600OnPress(1, 0);
        CHECK.same("no blow yet", shop.count(6), 0);
        billet("nor is it colder", shop, 6, 0, 600, 0, 1);
    }

    /** "whose die is neither worn out": a wear one below the limit is enough, the limit is not. */
    private static void wornDieGetsNone() {
        ForgeHeats worn = withTwoPieces(10);
        worn.pass(1);
        nothingAt("wear 10 of 10", worn, 6);
        ForgeHeats notYet = withTwoPieces(11);
        notYet.pass(1);
        billet("wear 10 of 11", notYet, 6, 0);
    }

    /** Two pieces of five blows are made with die 0, the third billet is hot. */
    private static ForgeHeats withTwoPieces(int limit) {
        ForgeHeats shop = Shops.withStock(3);
        shop.range(0, 600, 600);
        shop.set(1, 1);
        shop.die(0, 5, limit);
        occupyGrinder(shop);
        shop.job(0, 0, 3, 0, false);
        CHECK.same("two pieces", shop.pass(16), 2);
        CHECK.same("ten blows", shop.dieOf(0, 2), 10);
        return shop;
    }

    /** "nor being ground": not in its last minute either. */
    private static void groundDieGetsNone() {
        ForgeHeats shop = Shops.withStock(1);
        shop.job(0, 0, 1, 0, false);
        shop.pass(7);
        shop.set(3, 2);
        shop.grind(0);
        shop.pass(2);
        billet("hot in the last minute of grinding", shop, 0, 0, 1220);
        nothingAt("the press waits", shop, 6);
        CHECK.same("ground", shop.dieOf(0, 5), 1);
        shop.pass(1);
        billet("a minute later", shop, 6, 0, 1250);
    }

    /** "of the jobs, by the order, the first one that has": those that have not are passed over. */
    private static void firstJobThatCan() {
        ForgeHeats shop = Shops.withStock(2);
        shop.job(0, 1, 1, 0, true);
        shop.job(1, 0, 1, 0, false);
        shop.job(2, 0, 1, 1, false);
        shop.set(3, 30);
        shop.grind(1);
        shop.pass(2);
        shop.stock(1, 1);
        shop.pass(7);
        billet("hot, but its die is ground", shop, 0, 1, 1220);
        nothingAt("so the press waits", shop, 6);
        shop.pass(1);
        billet("the third job is the first that can", shop, 6, 2, 1220);
        billet("not the one whose die is ground", shop, 0, 1, 1250);
        billet("nor the rush job that is too cold", shop, 2, 0, 1070);
    }

    /** "the hottest such one of its billets, of several that at the lowest place". */
    private static void hottestOrLowest() {
        ForgeHeats shop = withTwoHot(1000);
        shop.pass(1);
        billet("of 1220 and 1250 the hottest", shop, 6, 1, 1250);
        nothingAt("from place 1", shop, 1);
        ForgeHeats alike = withTwoHot(1240);
        alike.pass(1);
        billet("both hot enough at last", alike, 6, 1, 1250);
        ForgeHeats equal = withTwoHot(1000);
        equal.grind(1);
        equal.pass(5);
        equal.pass(1);
        billet("of two of 1250", equal, 6, 1, 1250);
        nothingAt("the one at the lowest place", equal, 0);
        billet("the other stays", equal, 1, 1, 1250);
    }

    /** "the hottest": by one degree, though it lies at a higher place. */
    private static void hottestByOneDegree() {
        int[] warming = {29, 30};
        for (int degrees : warming) {
            ForgeHeats shop = withTwoHot(1000);
            shop.set(3, 1);
            shop.grind(1);
            shop.pass(1);
            billet("its die was being ground", shop, 0, 1, 1220);
            billet("for this minute", shop, 1, 1, 1250);
            shop.set(0, degrees);
            shop.pass(1);
            int left = degrees == 29 ? 0 : 1;
            billet("one of them", shop, 6, 1, 1250);
            billet("not the colder, nor the higher one of equals", shop, left, 1, 1220 + degrees);
            nothingAt("that place is free", shop, 1 - left);
        }
    }

    /** Behind ten minutes a billet of 1070 degrees lies at place 0, one of 1220 at place 1. */
    private static ForgeHeats withTwoHot(int high) {
        ForgeHeats shop = Shops.withStock(9);
        shop.range(0, 600, 1240);
        shop.job(0, 0, 1, 0, false);
        shop.job(1, 0, 2, 1, false);
        shop.pass(2);
        shop.cancel(0);
        shop.pass(8);
        billet("came later", shop, 0, 1, 1070);
        billet("came earlier", shop, 1, 1, 1220);
        shop.range(0, 600, high);
        return shop;
    }

    // ---- 4. dies

    /** "its limit less by 5, but not less than 10", "its wear becomes 0". */
    private static void limitBehindGrinding() {
        int[] limits = {300, 16, 15, 14, 11, 10};
        int[] then = {295, 11, 10, 10, 10, 10};
        for (int index = 0; index < limits.length; index++) {
            ForgeHeats shop = Shops.withLoadedPress(0);
            shop.die(0, 3, limits[index]);
            shop.pass(3);
            shop.set(3, 2);
            shop.grind(0);
            shop.pass(1);
            CHECK.same("limit as long as it is ground", shop.dieOf(0, 1), limits[index]);
            CHECK.same("wear as long", shop.dieOf(0, 2), 3);
            CHECK.same("one minute to go", shop.dieOf(0, 3), 1);
            CHECK.same("not ground yet", shop.dieOf(0, 5), 0);
            shop.pass(1);
            CHECK.same("limit " + limits[index] + " then", shop.dieOf(0, 1), then[index]);
            CHECK.same("no wear", shop.dieOf(0, 2), 0);
            CHECK.same("none to go", shop.dieOf(0, 3), 0);
            CHECK.same("ground once", shop.dieOf(0, 5), 1);
        }
    }

    /** "the lowest die that is worn out begins to be ground": at its limit, in the minute of the blow. */
    private static void beginsAtItsLimit() {
        ForgeHeats shop = Shops.withStock(2);
        shop.range(0, 600, 600);
        shop.set(1, 1);
        shop.set(3, 7);
        shop.die(2, 5, 10);
        shop.job(2, 0, 2, 0, false);
        shop.pass(15);
        CHECK.same("wear 9 of 10", shop.dieOf(2, 2), 9);
        CHECK.same("none is ground", shop.count(10), ForgeHeats.NONE);
        shop.pass(1);
        CHECK.same("wear 10 of 10", shop.dieOf(2, 2), 10);
        CHECK.same("it is ground", shop.count(10), 2);
        CHECK.same("for the whole time from now on", shop.dieOf(2, 3), 7);
        shop.pass(7);
        CHECK.same("until no minute is to go", shop.count(10), ForgeHeats.NONE);
        CHECK.same("no wear", shop.dieOf(2, 2), 0);
        shop.pass(30);
        CHECK.same("it does not begin again", shop.dieOf(2, 5), 1);
    }

    /** "If none is being ground (then)": a worn die waits, and begins in the minute in which the other ends. */
    private static void oneAtATime() {
        ForgeHeats shop = withTwoPieces(10);
        CHECK.same("worn out", shop.dieOf(0, 2), 10);
        shop.pass(13);
        CHECK.same("another is being ground", shop.count(10), 4);
        CHECK.same("for a last minute", shop.dieOf(4, 3), 1);
        CHECK.same("it has to wait", shop.dieOf(0, 3), 0);
        shop.pass(1);
        CHECK.same("the other one is ground", shop.dieOf(4, 5), 1);
        CHECK.same("so it begins", shop.count(10), 0);
        CHECK.same("with the whole time", shop.dieOf(0, 3), 30);
    }

    /** "the lowest die that is worn out": of dies 0 and 3, first 0. */
    private static void lowestWornDie() {
        ForgeHeats shop = Shops.withStock(2);
        shop.range(0, 600, 1240);
        shop.set(0, 300);
        shop.set(1, 200);
        shop.die(0, 4, 10);
        shop.die(3, 4, 10);
        shop.job(3, 0, 1, 0, false);
        shop.job(0, 0, 1, 5, false);
        occupyGrinder(shop);
        CHECK.same("two pieces", shop.pass(29), 2);
        // Four blows at 1250, 1050, 850 and 650 degrees of 1240.
        CHECK.same("die 0 is worn out", shop.dieOf(0, 2), 1 + 2 + 4 + 6);
        CHECK.same("die 3, too", shop.dieOf(3, 2), 1 + 2 + 4 + 6);
        CHECK.same("die 4 is still being ground", shop.count(10), 4);
        shop.pass(1);
        CHECK.same("the lowest begins", shop.count(10), 0);
        CHECK.same("and it alone", shop.dieOf(3, 3), 0);
        shop.pass(30);
        CHECK.same("then the other", shop.count(10), 3);
        shop.pass(30);
        CHECK.same("then none", shop.count(10), ForgeHeats.NONE);
    }

    // ---- to go back

    /** "if that is more often than setting 2 ... it is scrap": 0 to 3 times it comes to the furnace. */
    private static void backAsOftenAsAllowed() {
        for (int reheats = 0; reheats <= 3; reheats++) {
            ForgeHeats shop = Shops.withLoadedPress(0);
            shop.set(2, reheats);
            shop.set(3, 1);
            for (int back = 1; back <= reheats; back++) {
                sendBack(shop);
                CHECK.same("back in the furnace", shop.billet(0, 2), back);
                CHECK.same("no scrap", shop.count(5), 0);
                shop.pass(1);
                CHECK.same("on the press again", shop.billet(6, 2), back);
            }
            sendBack(shop);
            CHECK.same("scrap behind " + reheats, shop.count(5), 1);
            CHECK.same("no billet left", shop.heat(0, 3), 0);
            nothingAt("the press is free", shop, 6);
        }
    }

    /** A minute in which the billet on the press goes back, its die being ground for that minute. */
    private static void sendBack(ForgeHeats shop) {
        shop.grind(0);
        shop.pass(1);
    }

    /** Setting 2 counts as it is when a billet goes back. */
    private static void settingWhenItGoesBack() {
        ForgeHeats shop = Shops.withLoadedPress(0);
        shop.set(2, 3);
        shop.set(3, 1);
        sendBack(shop);
        shop.pass(1);
        shop.set(2, 1);
        CHECK.same("heated again once", shop.billet(6, 2), 1);
        sendBack(shop);
        CHECK.same("twice is too often by now", shop.count(5), 1);
        ForgeHeats more = Shops.withLoadedPress(0);
        more.set(2, 0);
        more.set(3, 1);
        more.set(2, 1);
        sendBack(more);
        CHECK.same("once is allowed by now", more.count(5), 0);
        more.set(2, 0);
        more.pass(1);
        CHECK.same("a billet that is heated again too often is forged all the same", more.pass(3), 1);
    }

    /** "or the furnace has no free place": five billets leave one, six leave none. */
    private static void backToAFullFurnace() {
        ForgeHeats five = pressed(6);
        CHECK.same("five in the furnace", five.count(3), 5);
        sendBack(five);
        CHECK.same("the sixth place", five.count(3), 6);
        CHECK.same("no scrap", five.count(5), 0);
        billet("at the place that was free", five, 0, 0, 1220, 1, 3);
        ForgeHeats six = pressed(7);
        CHECK.same("five in the furnace, and stock", six.count(3), 5);
        sendBack(six);
        CHECK.same("the last place was taken in this minute", six.count(3), 6);
        CHECK.same("scrap", six.count(5), 1);
        billet("by a new billet", six, 0, 0, 20, 0, 3);
    }

    /** The first of so many billets lies on the press; a billet may be heated again three times. */
    private static ForgeHeats pressed(int stock) {
        ForgeHeats shop = Shops.withStock(stock);
        shop.set(2, 3);
        shop.job(0, 0, 9, 0, false);
        shop.pass(8);
        shop.set(3, 1);
        shop.pass(1);
        billet("the first one", shop, 6, 0, 1220, 0, 3);
        return shop;
    }

    /** "otherwise it comes to the lowest free place." */
    private static void backToTheLowestFreePlace() {
        ForgeHeats first = pressed(4);
        sendBack(first);
        billet("place 0 of 0, 4 and 5", first, 0, 0, 1220, 1);
        ForgeHeats behind = pressed(4);
        behind.stock(0, 1);
        sendBack(behind);
        billet("place 0 for a new billet", behind, 0, 0, 20, 0);
        billet("place 4 of 4 and 5", behind, 4, 0, 1220, 1);
        nothingAt("place 5 stays free", behind, 5);
    }

    /** It goes back with the blows that it still needs, as hot as it is. */
    private static void backAsItIs() {
        ForgeHeats shop = pressed(1);
        shop.pass(2);
        sendBack(shop);
        billet("behind two blows", shop, 0, 0, 1140, 1, 1);
        shop.pass(1);
        CHECK.same("one blow makes it a piece", shop.pass(1), 1);
    }

    public static void main(String[] args) {
        asColdAsTheLow();
        wearByCold();
        wearByHotter();
        cooling();
        dieAtItsLimit();
        dieBeingGround();
        lastBlow();
        lastPiece();
        lateness();
        lateInTheLastMinute();
        asHotAsTheHigh();
        pressThatBecomesFree();
        noBlowWhenItComes();
        wornDieGetsNone();
        groundDieGetsNone();
        firstJobThatCan();
        hottestOrLowest();
        hottestByOneDegree();
        limitBehindGrinding();
        beginsAtItsLimit();
        oneAtATime();
        lowestWornDie();
        backAsOftenAsAllowed();
        settingWhenItGoesBack();
        backToAFullFurnace();
        backToTheLowestFreePlace();
        backAsItIs();
        CHECK.end();
    }
}
