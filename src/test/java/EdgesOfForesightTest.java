import java.util.function.Consumer;
import java.util.function.Supplier;

/** Promises 22 to 27: each boundary that they name, tried on both sides of it. */
public final class EdgesOfForesightTest {
    private static final Check CHECK = new Check("EdgesOfForesightTest");
    private static final int[] FAR = {Integer.MIN_VALUE, Integer.MAX_VALUE};

    private static void refused(String what, Class<? extends RuntimeException> due, Consumer<ForgeHeats> call) {
        CHECK.asIfNotMade(what + " on a new shop", ForgeHeats::new, due, call);
        CHECK.asIfNotMade(what + " on a busy shop", Shops::busy, due, call);
    }

    /** A job whose 29 pieces of 7 blows are made behind 240 minutes with a warming of 150, behind 241 with 130. */
    private static ForgeHeats longJob(int warming) {
        ForgeHeats shop = Shops.withStock(30);
        shop.set(0, warming);
        shop.set(1, 1);
        shop.die(0, 7, 300);
        shop.job(0, 0, 29, 0, false);
        return shop;
    }

    /** "what would be; nothing is changed", also of the saved states, at the last minute, and of the buffer. */
    private static void nothingIsChanged() {
        ForgeHeats busy = Shops.busy();
        CHECK.same("a busy shop has all saved states", busy.count(11), 6);
        int number = busy.jobOf(0, 0);
        unchanged("a busy shop", Shops::busy, number);
        unchanged("the last minute", EdgesOfForesightTest::atTheEnd, 1);
        unchanged("a new job", () -> longJob(150), 0);
    }

    private static void unchanged(String what, Supplier<ForgeHeats> maker, int number) {
        for (int kind = 0; kind <= 4; kind++) {
            int which = kind;
            CHECK.changesNothing("ifPassed " + kind + ", " + what, maker, shop -> shop.ifPassed(240, which));
        }
        CHECK.changesNothing("doneIn, " + what, maker, shop -> shop.doneIn(number));
        CHECK.changesNothing("ifRush, " + what, maker, shop -> shop.ifRush(number));
        CHECK.changesNothing("bestReheats, " + what, maker, shop -> shop.bestReheats(120));
        CHECK.changesNothing("saved, " + what, maker, ForgeHeats::saved);
        CHECK.changesNothing("digest, " + what, maker, ForgeHeats::digest);
    }

    // ---- promise 22

    /** "minutes: 1 to 240", "Throws IllegalArgumentException if minutes or what is out of range". */
    private static void minutesOfIfPassed() {
        int[] wrong = {0, 241, -1, FAR[0], FAR[1]};
        for (int minutes : wrong) {
            for (int what = 0; what <= 4; what++) {
                int which = what;
                refused("ifPassed of " + minutes, Check.ARGUMENT, shop -> shop.ifPassed(minutes, which));
            }
        }
        CHECK.same("1 minute", new ForgeHeats().ifPassed(1, 0), 0);
        CHECK.same("240 minutes", new ForgeHeats().ifPassed(240, 0), 0);
    }

    /** "what: 0 ... 4". */
    private static void whatOfIfPassed() {
        int[] wrong = {-1, 5, FAR[0], FAR[1]};
        for (int what : wrong) {
            refused("ifPassed with " + what, Check.ARGUMENT, shop -> shop.ifPassed(1, what));
            refused("ifPassed of 0 with " + what, Check.ARGUMENT, shop -> shop.ifPassed(0, what));
            refused("ifPassed of 241 with " + what, Check.ARGUMENT, shop -> shop.ifPassed(241, what));
        }
        for (int what = 0; what <= 4; what++) {
            CHECK.same("a new shop, " + what, new ForgeHeats().ifPassed(240, what), 0);
        }
    }

    private static void foreseen(String what, ForgeHeats shop, int minutes, int... numbers) {
        for (int index = 0; index < numbers.length; index++) {
            CHECK.same(what + ", " + index, shop.ifPassed(minutes, index), numbers[index]);
        }
    }

    /** The very minute in which something happens counts, the one before it does not. */
    private static void theVeryMinute() {
        ForgeHeats shop = longJob(150);
        foreseen("a minute too few", shop, 239, 28, 0, 1, 0, 29 * 7 - 1);
        foreseen("the last piece in the last minute", shop, 240, 29, 0, 0, 240, 29 * 7);
        ForgeHeats next = Shops.withLoadedPress(5);
        foreseen("a blow in the next minute", next, 1, 0, 0, 1, 0, 1);
        next.pass(2);
        foreseen("the piece in the next minute", next, 1, 1, 0, 0, 12 - 5, 1);
        ForgeHeats scrap = Shops.with600OnPress(3, 0);
        scrap.set(2, 0);
        foreseen("a blow at 600 degrees", scrap, 1, 0, 0, 1, 0, 1);
        foreseen("then scrap", scrap, 2, 0, 1, 1, 0, 1);
    }

    /** "0: pieces that would be made in them; 1: billets that would become scrap; 3: ... gone in them": not those before. */
    private static void notWhatWasBefore() {
        ForgeHeats shop = Shops.withStock(2);
        shop.job(0, 0, 1, 0, false);
        shop.pass(12);
        shop.job(0, 0, 1, 0, false);
        shop.pass(1);
        shop.cancel(1);
        CHECK.same("a piece so far", shop.count(4), 1);
        CHECK.same("scrap so far", shop.count(5), 1);
        CHECK.same("minutes late so far", shop.count(9), 12);
        CHECK.same("blows so far", shop.count(6), 3);
        foreseen("nothing any more", shop, 240, 0, 0, 0, 0, 0);
        shop.job(0, 0, 1, 0, false);
        foreseen("but a job without stock", shop, 240, 0, 0, 1, 0, 0);
    }

    // ---- "the limit of 9999 does not matter"

    /** The last minute has gone; two jobs are to be made, and one has no stock. */
    private static ForgeHeats atTheEnd() {
        ForgeHeats shop = Shops.beforeTheLastMinute(0);
        shop.stock(0, 2);
        shop.job(0, 0, 1, 9998, false);
        shop.job(0, 0, 1, 9999, false);
        shop.job(0, 1, 1, 9999, false);
        return shop;
    }

    private static void beyondTheLastMinute() {
        ForgeHeats shop = atTheEnd();
        CHECK.thrown("no minute can pass", Check.STATE, () -> shop.pass(1));
        foreseen("behind 12 of them", shop, 12, 1, 0, 2, 13, 3);
        foreseen("behind 16 of them", shop, 16, 2, 0, 1, 13 + 16, 6);
        foreseen("behind 240 of them", shop, 240, 2, 0, 1, 13 + 16, 6);
        CHECK.same("done in", shop.doneIn(0), 12);
        CHECK.same("done in, the next", shop.doneIn(1), 16);
        CHECK.same("never done", shop.doneIn(2), ForgeHeats.NONE);
        CHECK.same("earlier by", shop.ifRush(1), 4);
        CHECK.same("nothing to gain", shop.ifRush(2), 0);
        CHECK.same("best reheats", shop.bestReheats(120), 0);
        shop.set(1, 200);
        shop.range(0, 900, 1200);
        CHECK.same("best reheats for cold ones", shop.bestReheats(120), 1);
        CHECK.same("the minutes that have gone", shop.count(0), 9999);
    }

    // ---- promise 23

    /** "Throws IndexOutOfBoundsException if there is no such job", in promises 23 and 24. */
    private static void noSuchJob() {
        int[] wrong = {-1, 10, FAR[0], FAR[1]};
        for (int number : wrong) {
            refused("doneIn of " + number, Check.PLACE, shop -> shop.doneIn(number));
            refused("ifRush of " + number, Check.PLACE, shop -> shop.ifRush(number));
            CHECK.asIfNotMade("doneIn of " + number + " of ten", Shops::withTenJobs, Check.PLACE,
                shop -> shop.doneIn(number));
            CHECK.asIfNotMade("ifRush of " + number + " of ten", Shops::withTenJobs, Check.PLACE,
                shop -> shop.ifRush(number));
        }
        CHECK.asIfNotMade("doneIn without jobs", ForgeHeats::new, Check.PLACE, shop -> shop.doneIn(0));
        CHECK.asIfNotMade("ifRush without jobs", ForgeHeats::new, Check.PLACE, shop -> shop.ifRush(0));
        CHECK.same("the last of ten", Shops.withTenJobs().doneIn(9), ForgeHeats.NONE);
        CHECK.same("the last of ten as a rush job", Shops.withTenJobs().ifRush(9), 0);
        ForgeHeats gone = Shops.withLoadedPress(0);
        gone.pass(3);
        CHECK.thrown("doneIn of a job that is gone", Check.PLACE, () -> gone.doneIn(0));
        CHECK.thrown("ifRush of a job that is gone", Check.PLACE, () -> gone.ifRush(0));
        ForgeHeats cancelled = Shops.withTenJobs();
        cancelled.cancel(9);
        CHECK.thrown("doneIn of a cancelled job", Check.PLACE, () -> cancelled.doneIn(9));
        CHECK.thrown("ifRush of a cancelled job", Check.PLACE, () -> cancelled.ifRush(9));
    }

    /** "Returns behind how many minutes, 1 to 240; NONE if not behind 240". */
    private static void doneBehind() {
        ForgeHeats next = Shops.withLoadedPress(0);
        next.pass(2);
        CHECK.same("behind the next minute", next.doneIn(0), 1);
        CHECK.same("behind 240", longJob(150).doneIn(0), 240);
        ForgeHeats later = longJob(130);
        CHECK.same("behind 241", later.doneIn(0), ForgeHeats.NONE);
        later.pass(1);
        CHECK.same("behind 240 by now", later.doneIn(0), 240);
        ForgeHeats never = new ForgeHeats();
        never.job(0, 0, 1, 0, false);
        CHECK.same("without stock", never.doneIn(0), ForgeHeats.NONE);
        never.stock(1, 99);
        CHECK.same("with stock of another heat", never.doneIn(0), ForgeHeats.NONE);
    }

    // ---- promise 24

    /** "Returns by how many minutes the job would be gone earlier": none if it is a rush job, or the first one. */
    private static void nothingToGain() {
        ForgeHeats shop = twoJobs(2);
        CHECK.same("the first job", shop.ifRush(0), 0);
        shop.rush(1, true);
        CHECK.same("a rush job", shop.ifRush(1), 0);
        CHECK.same("as it is", shop.doneIn(1), 12);
        ForgeHeats alone = Shops.withLoadedPress(0);
        CHECK.same("alone", alone.ifRush(0), 0);
    }

    /** Two jobs of one piece, of which the first one comes first by the order. */
    private static ForgeHeats twoJobs(int stock) {
        ForgeHeats shop = stock > 0 ? Shops.withStock(stock) : new ForgeHeats();
        shop.job(0, 0, 1, 0, false);
        shop.job(0, 0, 1, 1, false);
        return shop;
    }

    /** "999 if only as a rush job it would". */
    private static void onlyAsRush() {
        CHECK.same("stock for both", twoJobs(2).ifRush(1), 4);
        CHECK.same("stock for one", twoJobs(1).ifRush(1), 999);
        CHECK.same("for the first one as it is", twoJobs(1).ifRush(0), 0);
        ForgeHeats late = longJobBehindAnother(150, 29);
        CHECK.same("behind 248 as it is", late.doneIn(1), ForgeHeats.NONE);
        CHECK.same("behind 240 as a rush job", late.ifRush(1), 999);
        ForgeHeats both = longJobBehindAnother(150, 28);
        CHECK.same("behind 240 as it is", both.doneIn(1), 240);
        CHECK.same("behind 232 as a rush job", both.ifRush(1), 8);
    }

    /** A job of seven blows a piece, one of whose billets has to wait for that of an earlier job. */
    private static ForgeHeats longJobBehindAnother(int warming, int pieces) {
        ForgeHeats shop = Shops.withStock(99);
        shop.set(0, warming);
        shop.set(1, 1);
        shop.die(0, 7, 300);
        shop.job(0, 0, 1, 0, false);
        shop.job(0, 0, pieces, 5, false);
        return shop;
    }

    /** "0 if it would not be gone behind 240 minutes in both cases". */
    private static void inNeitherCase() {
        CHECK.same("no stock", twoJobs(0).ifRush(1), 0);
        ForgeHeats late = longJobBehindAnother(130, 29);
        CHECK.same("behind 249 as it is, 241 as a rush job", late.ifRush(1), 0);
        late.rush(1, true);
        CHECK.same("so it is not behind 240", late.doneIn(1), ForgeHeats.NONE);
        late.pass(1);
        CHECK.same("but behind 241", late.doneIn(1), 240);
        ForgeHeats less = longJobBehindAnother(130, 28);
        CHECK.same("behind 241 as it is, 233 as a rush job", less.ifRush(1), 999);
        CHECK.same("not behind 240 as it is", less.doneIn(1), ForgeHeats.NONE);
        less.pass(1);
        CHECK.same("but behind 241", less.doneIn(1), 240);
    }

    /** "(below 0 if later)", "-999 if only as it is". */
    private static void haste() {
        ForgeHeats later = harmedByHaste(14, 4, 22);
        CHECK.same("as it is", later.doneIn(2), 219);
        CHECK.same("behind 240 as a rush job", later.ifRush(2), 219 - 240);
        later.rush(2, true);
        CHECK.same("so it is", later.doneIn(2), 240);
        ForgeHeats tooLate = harmedByHaste(14, 4, 21);
        CHECK.same("as it is, a minute before", tooLate.doneIn(2), 220);
        CHECK.same("behind 241 as a rush job", tooLate.ifRush(2), -999);
        tooLate.rush(2, true);
        CHECK.same("so it is not behind 240", tooLate.doneIn(2), ForgeHeats.NONE);
        tooLate.pass(1);
        CHECK.same("but behind 241", tooLate.doneIn(2), 240);
        ForgeHeats last = harmedByHaste(18, 2, 29);
        CHECK.same("behind 240 as it is", last.doneIn(2), 240);
        CHECK.same("only as it is", last.ifRush(2), -999);
    }

    /** The die bears less than the blows of two pieces, so the billet of one job is lost, of job 2 if it hastes. */
    private static ForgeHeats harmedByHaste(int pieces, int grinding, int minutes) {
        ForgeHeats shop = Shops.withStock(99);
        shop.set(1, 1);
        shop.set(2, 0);
        shop.set(3, grinding);
        shop.die(0, 8, 10);
        shop.job(0, 0, 1, 0, false);
        shop.job(0, 0, 1, 1, false);
        shop.job(0, 0, pieces, 2, false);
        shop.pass(minutes);
        return shop;
    }

    // ---- promise 25

    /** "minutes: 1 to 120", "Throws IllegalArgumentException if minutes is out of range". */
    private static void minutesOfBestReheats() {
        int[] wrong = {0, 121, -1, 240, FAR[0], FAR[1]};
        for (int minutes : wrong) {
            refused("bestReheats of " + minutes, Check.ARGUMENT, shop -> shop.bestReheats(minutes));
        }
        CHECK.same("1 minute", new ForgeHeats().bestReheats(1), 0);
        CHECK.same("120 minutes", new ForgeHeats().bestReheats(120), 0);
        ForgeHeats slow = Shops.withStock(1);
        slow.range(0, 1000, 1190);
        slow.set(0, 10);
        slow.set(1, 200);
        slow.job(0, 0, 1, 0, false);
        CHECK.same("nothing goes back in 119 minutes", slow.bestReheats(119), 0);
        CHECK.same("but in the last of 120", slow.bestReheats(120), 1);
        ForgeHeats next = Shops.with600OnPress(3, 0);
        next.range(0, 601, 601);
        CHECK.same("in the next minute", next.bestReheats(1), 1);
    }

    /** "with which most pieces would be made": the setting 2, 0 to 3. */
    private static void mostPieces() {
        // Two blows each time, so one more reheat for each two blows more.
        int[] blows = {2, 3, 4, 5, 6, 7, 8};
        int[] best = {0, 1, 1, 2, 2, 3, 3};
        for (int index = 0; index < blows.length; index++) {
            CHECK.same(blows[index] + " blows", coldJob(blows[index]).bestReheats(60), best[index]);
        }
    }

    /** A billet that is too cold behind each two blows, and needs so many. */
    private static ForgeHeats coldJob(int blows) {
        ForgeHeats shop = Shops.withStock(1);
        shop.range(0, 900, 1200);
        shop.set(1, 200);
        shop.die(0, blows, 300);
        shop.job(0, 0, 1, 0, false);
        return shop;
    }

    /** "of several the one with the least scrap, of these the lowest". */
    private static void leastScrapThenLowest() {
        // It goes back in minutes 12, 18, 24 and 30; a piece of nine blows is never made of it.
        int[] minutes = {11, 12, 17, 18, 23, 24, 29, 30, 120};
        int[] best = {0, 1, 1, 2, 2, 3, 3, 0, 0};
        for (int index = 0; index < minutes.length; index++) {
            CHECK.same("in " + minutes[index] + " minutes", coldJob(9).bestReheats(minutes[index]), best[index]);
        }
    }

    /** Pieces count more than scrap, and the present setting 2 does not count. */
    private static void piecesBeforeScrap() {
        for (int reheats = 0; reheats <= 3; reheats++) {
            ForgeHeats shop = coldJob(3);
            shop.set(2, reheats);
            CHECK.same("a piece with one", shop.bestReheats(60), 1);
            CHECK.same("the setting stays", shop.setting(2), reheats);
        }
        ForgeHeats many = Shops.withStock(99);
        many.range(0, 900, 1200);
        many.set(1, 200);
        many.set(2, 0);
        many.job(0, 0, 20, 0, false);
        int[][] results = new int[4][];
        for (int reheats = 0; reheats <= 3; reheats++) {
            many.set(2, reheats);
            results[reheats] = new int[] {many.ifPassed(40, 0), many.ifPassed(40, 1)};
        }
        CHECK.same("less scrap with none", results[0][1] < results[1][1] ? 0 : 1, 1);
        CHECK.same("most pieces", many.bestReheats(40), bestOf(results));
    }

    private static int bestOf(int[][] results) {
        int best = 0;
        for (int reheats = 1; reheats <= 3; reheats++) {
            int more = results[reheats][0] - results[best][0];
            if (more > 0 || more == 0 && results[reheats][1] < results[best][1]) {
                best = reheats;
            }
        }
        return best;
    }

    // ---- promise 26

    /** "1.0 if that is 0"; with the first piece or the first scrap it is a share. */
    private static void savedOfNothing() {
        CHECK.same("nothing made, nothing lost", new ForgeHeats().saved(), 1.0);
        ForgeHeats begun = Shops.withLoadedPress(0);
        CHECK.same("a begun piece", begun.saved(), 1.0);
        begun.pass(3);
        CHECK.same("a piece alone", begun.saved(), 1.0);
        ForgeHeats lost = Shops.withLoadedPress(0);
        lost.cancel(0);
        CHECK.same("scrap alone", lost.saved(), 0.0);
        lost.undo();
        CHECK.same("undone", lost.saved(), 1.0);
    }

    /** "the pieces ... divided by the sum of these and of the billets that became scrap", not rounded. */
    private static void savedOfSome() {
        ForgeHeats shop = Shops.withStock(9);
        shop.job(0, 0, 3, 0, false);
        shop.pass(12);
        shop.cancel(0);
        CHECK.same("one piece, two scrap", shop.saved(), 1.0 / 3.0);
        shop.job(0, 0, 1, 0, false);
        shop.pass(12);
        CHECK.same("two pieces, two scrap", shop.saved(), 0.5);
        shop.job(0, 1, 1, 0, false);
        shop.stock(1, 1);
        shop.pass(1);
        shop.cancel(2);
        CHECK.same("of all heats together", shop.saved(), 2.0 / 5.0);
    }

    // ---- promise 27

    /** The digest must be the hash of what the other calls answer; a shop for each, as both take many calls. */
    private static void sameDigest(String what, Supplier<ForgeHeats> maker, String buffer) {
        CHECK.same(what, maker.get().digest(), Hash.of(maker.get(), buffer));
    }

    /** The hash of an empty and of a full shop: no jobs and ten, no character and 60. */
    private static void digestOfEmptyAndFull() {
        sameDigest("empty", ForgeHeats::new, "");
        CHECK.same("empty, as the model has it", new ForgeHeats().digest(), new Model().digest());
        sameDigest("ten jobs", Shops::withTenJobs, "");
        ForgeHeats full = fullShop("");
        CHECK.same("all places taken", full.count(3), 6);
        CHECK.same("and the press", full.billet(6, 0), 0);
        sameDigest("ten jobs and seven billets", () -> fullShop(""), "");
        String text = "~!".repeat(30);
        sameDigest("a full buffer", () -> fullShop(text), text);
        sameDigest("in the last minute", EdgesOfForesightTest::atTheEnd, "");
    }

    /** Ten jobs, with billets at all places. */
    private static ForgeHeats fullShop(String text) {
        ForgeHeats shop = Shops.withTenJobs();
        shop.stock(0, 99);
        shop.pass(10);
        Shops.write(shop, text);
        return shop;
    }

    /** "the bits of saved": of 1.0, of 0.0, and of shares between them. */
    private static void digestOfShares() {
        sameDigest("1.0", ForgeHeats::new, "");
        double[] shares = {0.0, 1.0 / 5.0, 2.0 / 8.0, 3.0 / 11.0, 4.0 / 14.0, 5.0 / 17.0};
        for (int rounds = 0; rounds < shares.length; rounds++) {
            int count = rounds;
            CHECK.same("share of " + rounds, withShare(rounds).saved(), shares[rounds]);
            sameDigest("digest of " + rounds, () -> withShare(count), "");
        }
    }

    /** Two billets become scrap, and behind them in each round a piece is made and two more become scrap. */
    private static ForgeHeats withShare(int rounds) {
        ForgeHeats shop = Shops.withStock(99);
        for (int round = 0; round <= rounds; round++) {
            int number = shop.job(0, 0, 3, 0, false);
            shop.pass(round == 0 ? 2 : 12);
            shop.cancel(number);
        }
        return shop;
    }

    /** "ifPassed of 30 with 0 to 4": in each of the minutes 29 to 31 there is another blow. */
    private static void digestOfHalfAnHour() {
        ForgeHeats shop = longJob(150);
        CHECK.same("30 and not 29", shop.ifPassed(30, 4) - shop.ifPassed(29, 4), 1);
        CHECK.same("30 and not 31", shop.ifPassed(31, 4) - shop.ifPassed(30, 4), 1);
        sameDigest("blows in 30", () -> longJob(150), "");
    }

    /** "bestReheats of 40": the best number changes with the minute 40, or with the minute 41. */
    private static void digestOfBestReheats() {
        int[] grinding = {24, 25};
        int[] in40 = {3, 2};
        for (int index = 0; index < grinding.length; index++) {
            int minutes = grinding[index];
            ForgeHeats shop = coldBehindGrinding(minutes);
            CHECK.same("best in 39", shop.bestReheats(39), 2);
            CHECK.same("best in 40", shop.bestReheats(40), in40[index]);
            CHECK.same("best in 41", shop.bestReheats(41), 3);
            sameDigest("digest with it", () -> coldBehindGrinding(minutes), "");
        }
    }

    private static ForgeHeats coldBehindGrinding(int minutes) {
        ForgeHeats shop = coldJob(9);
        shop.set(3, minutes);
        shop.grind(0);
        return shop;
    }

    /** Two shops that differ in one number alone have another hash. */
    private static void digestTellsApart() {
        long first = Shops.busy().digest();
        Consumer<ForgeHeats> none = shop -> { };
        CHECK.same("the same shop", digestBehind(none), first);
        CHECK.same("a character", digestBehind(shop -> shop.append('1')) == first ? 1 : 0, 0);
        CHECK.same("a saved state less", digestBehind(ForgeHeats::undo) == first ? 1 : 0, 0);
        CHECK.same("the stock", digestBehind(shop -> shop.stock(3, 1)) == first ? 1 : 0, 0);
        CHECK.same("a setting", digestBehind(shop -> shop.set(3, 6)) == first ? 1 : 0, 0);
        CHECK.same("a temperature", digestBehind(shop -> shop.range(3, 900, 1101)) == first ? 1 : 0, 0);
        CHECK.same("a limit", digestBehind(shop -> shop.die(2, 3, 61)) == first ? 1 : 0, 0);
    }

    private static long digestBehind(Consumer<ForgeHeats> call) {
        ForgeHeats shop = Shops.busy();
        call.accept(shop);
        return shop.digest();
    }

    public static void main(String[] args) {
        nothingIsChanged();
        minutesOfIfPassed();
        whatOfIfPassed();
        theVeryMinute();
        notWhatWasBefore();
        beyondTheLastMinute();
        noSuchJob();
        doneBehind();
        nothingToGain();
        onlyAsRush();
        inNeitherCase();
        haste();
        minutesOfBestReheats();
        mostPieces();
        leastScrapThenLowest();
        piecesBeforeScrap();
        savedOfNothing();
        savedOfSome();
        digestOfEmptyAndFull();
        digestOfShares();
        digestOfHalfAnHour();
        digestOfBestReheats();
        digestTellsApart();
        CHECK.end();
    }
}
