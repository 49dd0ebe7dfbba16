import java.util.ArrayList;
import java.util.List;
import java.util.function.Supplier;

/** Sentences of the document that name no boundary, each with a method of its own; its comment says the sentence. */
public final class SentencesTest {
    private static final Check CHECK = new Check("SentencesTest");

    // ---- the beginning

    /** "stocks that add up": what came to a stock lies there, or is on its way, or is a piece, or is scrap. */
    private static void stocksAddUp() {
        ForgeHeats shop = hardShop();
        for (int minutes = 3; minutes <= 99; minutes += 3) {
            shop.pass(3);
            for (int heat = 0; heat < 2; heat++) {
                int there = shop.heat(heat, 0) + shop.heat(heat, 3) + shop.heat(heat, 4) + shop.heat(heat, 5);
                CHECK.same("billets of heat " + heat + " behind " + minutes, there, 60);
            }
        }
        CHECK.same("some are pieces", shop.count(4) > 0 ? 1 : 0, 1);
        CHECK.same("some are scrap", shop.count(5) > 0 ? 1 : 0, 1);
    }

    /** Five jobs of two heats, with cold blows and dies that bear little. */
    private static ForgeHeats hardShop() {
        ForgeHeats shop = new ForgeHeats();
        for (int heat = 0; heat < 2; heat++) {
            shop.stock(heat, 60);
            shop.range(heat, 800 + 50 * heat, 1150);
        }
        shop.set(0, 280);
        shop.set(1, 120);
        shop.set(3, 3);
        for (int die = 0; die < 3; die++) {
            shop.die(die, 4, 14 + die);
        }
        int[] dues = {90, 20, 50, 35, 70};
        for (int number = 0; number < dues.length; number++) {
            shop.job(number % 3, number % 2, 3 + number, dues[number], number == 4);
        }
        return shop;
    }

    /** "dies that are ground and can bear less each time": a piece less between the second and third grinding. */
    private static void diesBearLess() {
        ForgeHeats shop = Shops.withStock(40);
        shop.range(0, 600, 600);
        shop.set(1, 1);
        shop.set(2, 3);
        shop.die(0, 5, 20);
        shop.job(0, 0, 40, 0, false);
        int[] limits = {20, 15, 10, 10};
        int blows = 0;
        for (int grinding = 0; grinding < limits.length; grinding++) {
            while (shop.count(10) == ForgeHeats.NONE) {
                shop.pass(1);
            }
            blows += limits[grinding];
            CHECK.same("blows before grinding " + grinding, shop.count(6), blows);
            shop.pass(5);
        }
    }

    // ---- a minute

    /** "In a minute this happens, in this order": first it is warmed, then a billet comes. */
    private static void warmedBeforeOneComes() {
        ForgeHeats shop = Shops.withStock(2);
        shop.job(0, 0, 2, 0, false);
        shop.pass(2);
        CHECK.same("came a minute ago", shop.billet(0, 1), 170);
        CHECK.same("came in this minute", shop.billet(1, 1), 20);
    }

    /** "in this order": first it is warmed, then the press takes a billet, as hot as that. */
    private static void warmedBeforeThePress() {
        ForgeHeats shop = Shops.withStock(1);
        shop.job(0, 0, 1, 0, false);
        shop.pass(8);
        CHECK.same("not hot enough", shop.billet(0, 1), 1070);
        CHECK.same("so it waits", shop.jobOf(0, 7), 4);
        shop.pass(1);
        CHECK.same("hot enough in this minute", shop.billet(6, 1), 1220);
    }

    /** "in this order": first a billet comes, then the press takes one, whose place stays free for this minute. */
    private static void oneComesBeforeThePress() {
        ForgeHeats shop = Shops.withStock(9);
        shop.job(0, 0, 9, 0, false);
        shop.pass(8);
        CHECK.same("a full furnace", shop.count(3), 6);
        shop.pass(1);
        CHECK.same("the press took one", shop.count(3), 5);
        CHECK.same("and none came for it", shop.heat(0, 0), 3);
        shop.pass(1);
        CHECK.same("but in the next minute", shop.heat(0, 0), 2);
    }

    /** "in this order": first a billet comes, then the one on the press goes back, and finds the place taken. */
    private static void oneComesBeforeOneGoesBack() {
        ForgeHeats shop = Shops.withStock(9);
        shop.job(0, 0, 9, 0, false);
        shop.pass(9);
        CHECK.same("one place is free", shop.count(3), 5);
        shop.grind(0);
        shop.pass(1);
        CHECK.same("a new one took it", shop.billet(0, 1), 20);
        CHECK.same("so the one that goes back is scrap", shop.count(5), 1);
    }

    /** "in this order": first the blow, then the dies; a die that this blow wears out begins in this minute. */
    private static void blowBeforeTheDies() {
        ForgeHeats shop = Shops.withStock(2);
        shop.range(0, 600, 600);
        shop.die(0, 9, 10);
        shop.set(1, 1);
        shop.job(0, 0, 2, 0, false);
        shop.pass(15);
        CHECK.same("a blow before its limit", shop.dieOf(0, 2), 9);
        shop.pass(1);
        CHECK.same("at its limit", shop.dieOf(0, 2), 10);
        CHECK.same("it is ground from now on", shop.dieOf(0, 3), 5);
        CHECK.same("its billet is on the press for this minute", shop.billet(6, 3), 8);
        shop.pass(5);
        CHECK.same("not on the press in the last minute of grinding", shop.billet(6, 0), ForgeHeats.NONE);
        CHECK.same("which is over now", shop.count(10), ForgeHeats.NONE);
    }

    /** "the stock becomes 1 less": of its heat, with each billet that comes. */
    private static void stockBecomesLess() {
        ForgeHeats shop = new ForgeHeats();
        shop.stock(0, 9);
        shop.stock(2, 9);
        shop.job(0, 2, 3, 0, false);
        for (int minute = 1; minute <= 3; minute++) {
            shop.pass(1);
            CHECK.same("less by one a minute", shop.heat(2, 0), 9 - minute);
            CHECK.same("as many in the furnace", shop.count(3), minute);
            CHECK.same("another stock as before", shop.heat(0, 0), 9);
        }
    }

    /** "Otherwise there is a blow: the wear of the die becomes more by 1 ... and needs 1 blow less". */
    private static void aBlow() {
        ForgeHeats shop = Shops.withStock(1);
        shop.die(3, 4, 60);
        shop.job(3, 0, 1, 0, false);
        shop.pass(9);
        for (int blow = 1; blow <= 3; blow++) {
            shop.pass(1);
            CHECK.same("wear", shop.dieOf(3, 2), blow);
            CHECK.same("colder", shop.billet(6, 1), 1220 - 40 * blow);
            CHECK.same("blows needed", shop.billet(6, 3), 4 - blow);
            CHECK.same("heated again never", shop.billet(6, 2), 0);
            CHECK.same("all blows", shop.count(6), blow);
        }
    }

    /** "If a die is being ground, it has one minute less to go": and no other die has. */
    private static void aMinuteLessToGo() {
        ForgeHeats shop = new ForgeHeats();
        shop.set(3, 30);
        shop.grind(2);
        for (int minute = 1; minute < 30; minute++) {
            shop.pass(1);
            CHECK.same("to go", shop.dieOf(2, 3), 30 - minute);
            CHECK.same("of another die", shop.dieOf(1, 3), 0);
        }
    }

    /** "To go back: the billet is heated again once more ... The press is free then." */
    private static void toGoBack() {
        for (int reheats = 0; reheats <= 1; reheats++) {
            ForgeHeats shop = Shops.withLoadedPress(0);
            shop.set(2, reheats);
            shop.grind(0);
            shop.pass(1);
            CHECK.same("the press is free", shop.billet(6, 0), ForgeHeats.NONE);
            CHECK.same("scrap, or not", shop.count(5), 1 - reheats);
            CHECK.same("in the furnace, or not", shop.count(3), reheats);
            CHECK.same("heated again", shop.billet(0, 2), reheats == 1 ? 1 : ForgeHeats.NONE);
        }
    }

    // ---- terms

    /** "A billet has its job, its temperature, how often it was heated again, and the blows that it still needs." */
    private static void whatABilletHas() {
        ForgeHeats shop = new ForgeHeats();
        shop.stock(1, 2);
        shop.range(1, 1150, 1200);
        shop.die(4, 7, 200);
        shop.job(0, 0, 1, 0, false);
        shop.job(4, 1, 2, 9, false);
        shop.pass(12);
        // Job 0 has no stock. Two blows make 1140 degrees, with which it goes back in minute 12.
        int[][] billets = {{1, 1140, 1, 5}, {1, 1250, 0, 7}};
        for (int place = 0; place < billets.length; place++) {
            for (int what = 0; what <= 3; what++) {
                CHECK.same("billet at " + place + ", " + what, shop.billet(place, what), billets[place][what]);
            }
        }
        shop.pass(1);
        int[] pressed = {1, 1250, 1, 5};
        for (int what = 0; what <= 3; what++) {
            CHECK.same("on the press, " + what, shop.billet(6, what), pressed[what]);
        }
    }

    /** "The buffer is read from left to right": what stands behind an error does not matter, what stands before does. */
    private static void fromLeftToRight() {
        String[] texts = {"1d0h0!@5", "1d0h0@5!", "!5@0h0d1", "0h0d1", "1h0d0", "1d0h0;!", "1d9h9@9x"};
        int[] errors = {6, 8, 0, 0, 1, 6, 2};
        for (int index = 0; index < texts.length; index++) {
            CHECK.same("first error of " + texts[index], Shops.withText(texts[index]).firstError(), errors[index]);
        }
    }

    // ---- numbers of jobs

    /** "number: its number", which is not its place: the order of four jobs is 3, 1, 0, 2. */
    private static ForgeHeats outOfOrder() {
        ForgeHeats shop = Shops.withStock(2);
        shop.job(0, 0, 1, 7, false);
        shop.job(1, 1, 1, 5, false);
        shop.job(2, 2, 1, 9, false);
        shop.job(3, 0, 1, 8, true);
        int[] order = {3, 1, 0, 2};
        for (int place = 0; place < order.length; place++) {
            CHECK.same("the order", shop.jobOf(place, 0), order[place]);
        }
        return shop;
    }

    /** "number: its number", in cancel, rush, doneIn and ifRush. */
    private static void jobsByNumber() {
        int[] doneIn = {16, ForgeHeats.NONE, ForgeHeats.NONE, 12};
        int[] ifRush = {4, 0, 0, 0};
        int[] place = {2, 1, 3, 0};
        int[] rushed = {0, 0, 1, 0};
        for (int each = 0; each < 4; each++) {
            int number = each;
            CHECK.same("doneIn of " + number, outOfOrder().doneIn(number), doneIn[number]);
            CHECK.same("ifRush of " + number, outOfOrder().ifRush(number), ifRush[number]);
            CHECK.same("rush of " + number, outOfOrder().rush(number, true), rushed[number]);
            ForgeHeats shop = outOfOrder();
            shop.cancel(number);
            for (int behind = place[number]; behind < 3; behind++) {
                int due = outOfOrder().jobOf(behind + 1, 0);
                CHECK.same("a place earlier", shop.jobOf(behind, 0), due);
            }
            CHECK.same("three are left", shop.count(1), 3);
            CHECK.thrown("and not job " + number, Check.PLACE, () -> shop.doneIn(number));
        }
    }

    /** "isRush: whether it is one from now on": to and fro, and only that job. */
    private static void rushFromNowOn() {
        ForgeHeats shop = outOfOrder();
        CHECK.same("job 2 as a rush job", shop.rush(2, true), 1);
        CHECK.same("it is one", shop.jobOf(1, 6), 1);
        CHECK.same("job 3 still", shop.jobOf(0, 6), 1);
        CHECK.same("job 1 not", shop.jobOf(2, 6), 0);
        CHECK.same("job 3 as none", shop.rush(3, false), 3);
        CHECK.same("job 2 still", shop.jobOf(0, 6), 1);
        CHECK.same("job 3 no more", shop.jobOf(3, 6), 0);
        CHECK.same("one is left", shop.count(2), 1);
    }

    // ---- what would be is what comes

    private static List<Supplier<ForgeHeats>> shops() {
        List<Supplier<ForgeHeats>> shops = new ArrayList<>();
        for (int minutes = 0; minutes <= 40; minutes += 8) {
            int passed = minutes;
            shops.add(() -> {
                ForgeHeats shop = hardShop();
                for (int minute = 0; minute < passed; minute++) {
                    shop.pass(1);
                }
                return shop;
            });
        }
        for (int blows = 2; blows <= 8; blows += 2) {
            int needed = blows;
            shops.add(() -> coldShop(needed));
        }
        shops.add(Shops::busy);
        shops.add(Shops::withFullFurnace);
        return shops;
    }

    /** Two small jobs whose billets are too cold behind each two blows, and need so many. */
    private static ForgeHeats coldShop(int blows) {
        ForgeHeats shop = Shops.withStock(9);
        shop.range(0, 900, 1200);
        shop.set(1, 200);
        shop.die(0, blows, 300);
        shop.job(0, 0, 2, 40, false);
        shop.job(0, 0, 1, 60, false);
        return shop;
    }

    /** "Lets minutes pass": so many at once are as many, one by one. */
    private static void minutesAtOnce() {
        for (Supplier<ForgeHeats> maker : shops()) {
            ForgeHeats once = maker.get();
            ForgeHeats each = maker.get();
            int made = 0;
            for (int minute = 0; minute < 60; minute++) {
                made += each.pass(1);
            }
            CHECK.same("pieces in 60", once.pass(60), made);
            // Six saved states, so that they are counted alike.
            for (int call = 0; call < 6; call++) {
                once.set(1, 50);
                each.set(1, 50);
            }
            CHECK.same("all that is to be seen", once.digest(), each.digest());
        }
    }

    /** "Tells when a job would be gone, if only minutes pass": a minute before it is there, then it is not. */
    private static void goneWhenItWasTold() {
        for (Supplier<ForgeHeats> maker : shops()) {
            ForgeHeats first = maker.get();
            for (int place = 0; place < first.count(1); place++) {
                int number = first.jobOf(place, 0);
                int told = first.doneIn(number);
                int last = told == ForgeHeats.NONE ? 240 : told - 1;
                ForgeHeats shop = maker.get();
                for (int rest = last; rest > 0; rest -= 120) {
                    shop.pass(Math.min(rest, 120));
                }
                CHECK.same("job " + number + " is there behind " + last, isThere(shop, number) ? 1 : 0, 1);
                shop.pass(1);
                if (told != ForgeHeats.NONE) {
                    CHECK.same("job " + number + " is gone behind " + told, isThere(shop, number) ? 1 : 0, 0);
                }
            }
        }
    }

    private static boolean isThere(ForgeHeats shop, int number) {
        for (int place = 0; shop.jobOf(place, 0) != ForgeHeats.NONE; place++) {
            if (shop.jobOf(place, 0) == number) {
                return true;
            }
        }
        return false;
    }

    /** "Tells what haste would bring", "if it was a rush job from now on": what rush and doneIn tell of it. */
    private static void hasteBringsWhatWasTold() {
        for (Supplier<ForgeHeats> maker : shops()) {
            ForgeHeats shop = maker.get();
            for (int place = 0; place < shop.count(1); place++) {
                int number = shop.jobOf(place, 0);
                int asItIs = shop.doneIn(number);
                int told = shop.ifRush(number);
                ForgeHeats hasty = maker.get();
                hasty.rush(number, true);
                int asRush = hasty.doneIn(number);
                int due = asItIs - asRush;
                if (asItIs == ForgeHeats.NONE || asRush == ForgeHeats.NONE) {
                    due = asItIs == asRush ? 0 : asRush == ForgeHeats.NONE ? -999 : 999;
                }
                CHECK.same("haste of job " + number, told, due);
            }
        }
    }

    /** "Tells what minutes would bring": "pieces", "billets that would become scrap", "jobs then", "blows". */
    private static void minutesBringWhatWasTold() {
        for (Supplier<ForgeHeats> maker : shops()) {
            ForgeHeats shop = maker.get();
            ForgeHeats later = maker.get();
            for (int minutes = 1; minutes <= 80; minutes++) {
                later.pass(1);
                String behind = " behind " + minutes;
                CHECK.same("pieces" + behind, shop.ifPassed(minutes, 0), later.count(4) - shop.count(4));
                CHECK.same("blows" + behind, shop.ifPassed(minutes, 4), later.count(6) - shop.count(6));
            }
            CHECK.same("scrap", shop.ifPassed(80, 1), later.count(5) - shop.count(5));
            CHECK.same("jobs then", shop.ifPassed(80, 2), later.count(1));
            CHECK.same("minutes late", shop.ifPassed(80, 3), later.count(9) - shop.count(9));
        }
    }

    /** "Finds the best number of reheats": what set and pass tell of each of them. */
    private static void bestOfAllReheats() {
        boolean[] isBest = new boolean[4];
        for (Supplier<ForgeHeats> maker : shops()) {
            for (int minutes = 1; minutes <= 120; minutes += 7) {
                int best = 0;
                int mostWorth = Integer.MIN_VALUE;
                for (int reheats = 0; reheats <= 3; reheats++) {
                    ForgeHeats shop = maker.get();
                    shop.set(2, reheats);
                    int before = shop.count(5);
                    // A piece more is worth more than all scrap that there can be.
                    int worth = 1000 * shop.pass(minutes) - (shop.count(5) - before);
                    if (worth > mostWorth) {
                        best = reheats;
                        mostWorth = worth;
                    }
                }
                CHECK.same("best in " + minutes, maker.get().bestReheats(minutes), best);
                isBest[best] = true;
            }
        }
        for (int reheats = 0; reheats <= 3; reheats++) {
            CHECK.same(reheats + " is the best now and then", isBest[reheats] ? 1 : 0, 1);
        }
    }

    // ---- the hash

    /** "The hash starts at 2857. For each value v ... the hash becomes 31 * hash + v": of a new shop, by hand. */
    private static void hashOfANewShop() {
        List<Long> values = new ArrayList<>();
        add(values, 1, 0, 0, 0, 0, 0, 0, 0, 0, 0, 0, -1, 0);
        add(values, 1, 150, 40, 1, 5);
        add(values, 4, 0, 900, 1100, 0, 0, 0, 0);
        add(values, 5, 3, 60, 0, 0, 0, 0);
        add(values, 7, -1, -1, -1, -1);
        add(values, 5, 0);
        add(values, 1, 0);
        add(values, 1, 0x3FF0000000000000L);
        add(values, 1, 2, '4', '~');
        long hash = 2857L;
        for (long value : values) {
            hash = 31L * hash + value;
        }
        CHECK.same("the hash of a new shop with 4~ in its buffer", Shops.withText("4~").digest(), hash);
    }

    private static void add(List<Long> values, int times, long... row) {
        for (int time = 0; time < times; time++) {
            for (long value : row) {
                values.add(value);
            }
        }
    }

    public static void main(String[] args) {
        stocksAddUp();
        diesBearLess();
        warmedBeforeOneComes();
        warmedBeforeThePress();
        oneComesBeforeThePress();
        oneComesBeforeOneGoesBack();
        blowBeforeTheDies();
        stockBecomesLess();
        aBlow();
        aMinuteLessToGo();
        toGoBack();
        whatABilletHas();
        fromLeftToRight();
        jobsByNumber();
        rushFromNowOn();
        minutesAtOnce();
        goneWhenItWasTold();
        hasteBringsWhatWasTold();
        minutesBringWhatWasTold();
        bestOfAllReheats();
        hashOfANewShop();
        CHECK.end();
    }
}
