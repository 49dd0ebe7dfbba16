import java.util.function.Consumer;
import java.util.function.Supplier;

/** Promises 22 to 27: ifPassed, doneIn, ifRush, bestReheats, saved, digest. */
public final class ForesightTest {
    private static final Class<IndexOutOfBoundsException> PLACE = IndexOutOfBoundsException.class;
    private static final Class<IllegalArgumentException> ARGUMENT = IllegalArgumentException.class;
    private static final Check CHECK = new Check("ForesightTest");

    private static void ifPassed() {
        int[] minutes = {1, 2, 7, 29, 30, 60, 120};
        for (int count : minutes) {
            ForgeHeats shop = Shops.busy();
            ForgeHeats later = Shops.busy();
            int pieces = later.pass(count);
            CHECK.same("pieces in " + count, shop.ifPassed(count, 0), pieces);
            CHECK.same("scrap in " + count, shop.ifPassed(count, 1), later.count(5) - shop.count(5));
            CHECK.same("jobs behind " + count, shop.ifPassed(count, 2), later.count(1));
            CHECK.same("late in " + count, shop.ifPassed(count, 3), later.count(9) - shop.count(9));
            CHECK.same("blows in " + count, shop.ifPassed(count, 4), later.count(6) - shop.count(6));
        }
        ForgeHeats twice = Shops.busy();
        twice.pass(120);
        int made = twice.count(4) + twice.pass(120);
        ForgeHeats shop = Shops.busy();
        CHECK.same("pieces in 240", shop.ifPassed(240, 0), made - shop.count(4));
        ForgeHeats late = Shops.withLoadedPress(5);
        CHECK.same("pieces", late.ifPassed(3, 0), 1);
        CHECK.same("jobs then", late.ifPassed(3, 2), 0);
        CHECK.same("minutes late", late.ifPassed(3, 3), 7);
        CHECK.same("not gone yet", late.ifPassed(2, 3), 0);
        CHECK.same("a job then", late.ifPassed(2, 2), 1);
        CHECK.same("blows", late.ifPassed(2, 4), 2);
        late.pass(3);
        CHECK.same("late ones before do not count", late.ifPassed(3, 3), 0);
        CHECK.same("nor do pieces", late.ifPassed(3, 0), 0);
        CHECK.refused("0 minutes", shop, ARGUMENT, () -> shop.ifPassed(0, 0));
        CHECK.refused("241 minutes", shop, ARGUMENT, () -> shop.ifPassed(241, 0));
        CHECK.refused("what -1", shop, ARGUMENT, () -> shop.ifPassed(1, -1));
        CHECK.refused("what 5", shop, ARGUMENT, () -> shop.ifPassed(1, 5));
    }

    private static void scrapForeseen() {
        ForgeHeats shop = Shops.withStock(1);
        shop.range(0, 900, 1200);
        shop.set(1, 200);
        shop.set(2, 0);
        shop.job(0, 0, 1, 0, false);
        CHECK.same("no scrap in 11", shop.ifPassed(11, 1), 0);
        CHECK.same("scrap in 12", shop.ifPassed(12, 1), 1);
        shop.pass(12);
        CHECK.same("scrap before does not count", shop.ifPassed(12, 1), 0);
    }

    private static void doneIn() {
        ForgeHeats shop = Shops.withStock(1);
        shop.job(0, 0, 1, 0, false);
        shop.job(0, 0, 1, 9, false);
        CHECK.same("done in", shop.doneIn(0), 12);
        CHECK.same("without stock", shop.doneIn(1), -1);
        shop.pass(5);
        CHECK.same("done in less", shop.doneIn(0), 7);
        shop.pass(6);
        CHECK.same("done in the next minute", shop.doneIn(0), 1);
        shop.pass(1);
        CHECK.refused("a gone job", shop, PLACE, () -> shop.doneIn(0));
        CHECK.refused("job -1", shop, PLACE, () -> shop.doneIn(-1));
        CHECK.refused("job 2", shop, PLACE, () -> shop.doneIn(2));
        CHECK.same("behind 240 minutes", longJob(150).doneIn(0), 240);
        CHECK.same("behind 241", longJob(130).doneIn(0), -1);
    }

    /** A job whose 29 pieces of 7 blows come each 8 minutes, as soon as the first is hot. */
    private static ForgeHeats longJob(int warming) {
        ForgeHeats shop = Shops.withStock(29);
        shop.set(0, warming);
        shop.set(1, 1);
        shop.die(0, 7, 300);
        shop.job(0, 0, 29, 0, false);
        return shop;
    }

    private static void beyondTheLastMinute() {
        ForgeHeats shop = new ForgeHeats();
        for (int call = 0; call < 83; call++) {
            shop.pass(120);
        }
        shop.pass(35);
        shop.stock(0, 2);
        shop.job(0, 0, 1, 9999, false);
        shop.job(0, 0, 1, 9999, false);
        CHECK.same("done behind the last minute", shop.doneIn(0), 12);
        CHECK.same("gain behind it", shop.ifRush(1), 4);
        CHECK.same("late by then", shop.ifPassed(16, 3), 8 + 12);
        CHECK.same("pieces by then", shop.ifPassed(240, 0), 2);
        CHECK.same("digest by then", shop.digest(), Hash.of(shop, ""));
    }

    private static void ifRush() {
        ForgeHeats shop = Shops.withStock(2);
        shop.job(0, 0, 1, 0, false);
        shop.job(0, 0, 1, 5, false);
        CHECK.same("as it is", shop.doneIn(1), 16);
        CHECK.same("four minutes earlier", shop.ifRush(1), 4);
        CHECK.same("the first gains nothing", shop.ifRush(0), 0);
        CHECK.same("it is no rush job for that", shop.count(2), 0);
        shop.rush(1, true);
        CHECK.same("a rush job gains nothing", shop.ifRush(1), 0);
        CHECK.same("the other overtakes it", shop.ifRush(0), 4);
        CHECK.refused("rush of -1", shop, PLACE, () -> shop.ifRush(-1));
        CHECK.refused("rush of 2", shop, PLACE, () -> shop.ifRush(2));
        ForgeHeats scarce = Shops.withStock(1);
        scarce.job(0, 0, 1, 0, false);
        scarce.job(0, 0, 1, 5, false);
        CHECK.same("only as a rush job", scarce.ifRush(1), 999);
        scarce.job(0, 1, 1, 5, false);
        CHECK.same("in neither case", scarce.ifRush(2), 0);
        CHECK.refused("a gone job", scarce, PLACE, () -> scarce.ifRush(3));
    }

    /** Behind 29 minutes: die 0 bears two blows more, and the next billet on the press is lost. */
    private static ForgeHeats badMoment(int stock) {
        ForgeHeats shop = Shops.withStock(stock);
        shop.set(1, 1);
        shop.set(2, 0);
        shop.die(0, 6, 20);
        shop.job(0, 0, 3, 0, false);
        shop.job(0, 0, 1, 1, false);
        shop.job(0, 0, 1, 2, false);
        shop.pass(29);
        CHECK.same("two blows more", shop.dieOf(0, 1) - shop.dieOf(0, 2), 2);
        return shop;
    }

    private static void hasteThatHarms() {
        ForgeHeats shop = badMoment(6);
        CHECK.same("behind the lost billet and the grinding", shop.doneIn(2), 15);
        CHECK.same("with a lost billet of its own", shop.ifRush(2), 15 - 22);
        shop.rush(2, true);
        CHECK.same("as a rush job", shop.doneIn(2), 22);
        CHECK.same("no billet for a second try", badMoment(5).ifRush(2), -999);
    }

    private static void bestReheats() {
        ForgeHeats shop = Shops.withStock(1);
        CHECK.same("nothing to do", shop.bestReheats(120), 0);
        shop.range(0, 900, 1200);
        shop.set(1, 200);
        shop.job(0, 0, 1, 0, false);
        // It comes back in minute 12, and is made in minute 16, if it can be heated again.
        CHECK.same("no difference", shop.bestReheats(11), 0);
        CHECK.same("less scrap", shop.bestReheats(12), 1);
        CHECK.same("a piece", shop.bestReheats(16), 1);
        shop.set(2, 3);
        CHECK.same("the setting does not matter", shop.bestReheats(16), 1);
        CHECK.same("the setting stays", shop.setting(2), 3);
        shop.die(0, 6, 300);
        CHECK.same("two reheats", shop.bestReheats(24), 2);
        CHECK.same("three reheats", hardJob(8).bestReheats(60), 3);
        CHECK.same("never a piece, and the same scrap", hardJob(9).bestReheats(60), 0);
        CHECK.same("never a piece, least scrap", hardJob(9).bestReheats(29), 3);
        CHECK.refused("0 minutes", shop, ARGUMENT, () -> shop.bestReheats(0));
        CHECK.refused("121 minutes", shop, ARGUMENT, () -> shop.bestReheats(121));
    }

    /** A billet that is too cold behind each two blows, and needs so many. */
    private static ForgeHeats hardJob(int blows) {
        ForgeHeats shop = Shops.withStock(1);
        shop.range(0, 900, 1200);
        shop.set(1, 200);
        shop.die(0, blows, 300);
        shop.job(0, 0, 1, 0, false);
        return shop;
    }

    private static void leastScrapAmongEquals() {
        for (int minutes = 1; minutes <= 120; minutes += 7) {
            int best = 0;
            int[] found = {-1, 0};
            for (int reheats = 0; reheats <= 3; reheats++) {
                ForgeHeats shop = Shops.busy();
                shop.set(2, reheats);
                int[] now = {shop.ifPassed(minutes, 0), shop.ifPassed(minutes, 1)};
                if (now[0] > found[0] || now[0] == found[0] && now[1] < found[1]) {
                    best = reheats;
                    found = now;
                }
            }
            CHECK.same("best in " + minutes, Shops.busy().bestReheats(minutes), best);
        }
    }

    private static void saved() {
        ForgeHeats shop = Shops.withStock(9);
        CHECK.same("nothing yet", shop.saved(), 1.0);
        shop.job(0, 0, 4, 0, false);
        shop.pass(12);
        CHECK.same("a piece", shop.saved(), 1.0);
        shop.cancel(0);
        CHECK.same("a piece, three scrap", shop.saved(), 0.25);
        shop.job(0, 0, 3, 0, false);
        shop.pass(20);
        CHECK.same("four pieces, three scrap", shop.saved(), 4.0 / 7.0);
        ForgeHeats lost = Shops.withStock(9);
        lost.job(0, 0, 1, 0, false);
        lost.pass(1);
        lost.cancel(0);
        CHECK.same("scrap alone", lost.saved(), 0.0);
    }

    /** The digest must be the hash of what the other calls answer; a shop for each, as both take many calls. */
    private static void sameDigest(String what, Supplier<ForgeHeats> maker, String buffer) {
        CHECK.same(what, maker.get().digest(), Hash.of(maker.get(), buffer));
    }

    /** A busy shop on which a call more was made. */
    private static Supplier<ForgeHeats> behind(Consumer<ForgeHeats> call) {
        return () -> {
            ForgeHeats shop = Shops.busy();
            call.accept(shop);
            return shop;
        };
    }

    private static void digest() {
        sameDigest("new", ForgeHeats::new, "");
        sameDigest("busy", Shops::busy, "2d1h1@7!;");
        ForgeHeats shop = Shops.busy();
        CHECK.same("twice", shop.digest(), shop.digest());
        CHECK.same("two alike", shop.digest(), Shops.busy().digest());
        sameDigest("a character more", behind(busy -> busy.append(126)), "2d1h1@7!;~");
        sameDigest("an empty buffer", behind(ForgeHeats::clearBuffer), "");
        sameDigest("an hour on", behind(busy -> busy.pass(60)), "2d1h1@7!;");
        sameDigest("and back", behind(busy -> {
            busy.pass(60);
            busy.undo();
        }), "2d1h1@7!;");
    }

    /** Shares of many kinds enter the hash with their bits. */
    private static void bitsOfShares() {
        for (int pieces = 0; pieces <= 12; pieces++) {
            for (int scrap = 0; scrap <= 20; scrap++) {
                int made = pieces;
                int lost = scrap;
                ForgeHeats shop = withShare(made, lost);
                CHECK.same("pieces", shop.count(4), pieces);
                CHECK.same("scrap", shop.count(5), scrap);
                sameDigest("share " + pieces + "/" + scrap, () -> withShare(made, lost), "");
            }
        }
    }

    private static ForgeHeats withShare(int pieces, int scrap) {
        ForgeHeats shop = Shops.withStock(99);
        shop.set(0, 300);
        shop.set(1, 1);
        shop.die(0, 1, 300);
        if (pieces > 0) {
            shop.job(0, 0, pieces, 0, false);
            shop.pass(5 + 2 * pieces);
        }
        for (int lost = 0; lost < scrap; lost++) {
            int number = shop.job(0, 0, 1, 0, false);
            shop.pass(1);
            shop.cancel(number);
        }
        return shop;
    }

    private static void nothingChanges() {
        ForgeHeats shop = Shops.busy();
        long before = shop.digest();
        int number = shop.jobOf(1, 0);
        for (int round = 0; round < 3; round++) {
            shop.ifPassed(240, round);
            shop.doneIn(number);
            shop.ifRush(number);
            shop.bestReheats(120);
            shop.saved();
        }
        CHECK.same("what would be changes nothing", shop.digest(), before);
    }

    public static void main(String[] args) {
        ifPassed();
        scrapForeseen();
        doneIn();
        beyondTheLastMinute();
        ifRush();
        hasteThatHarms();
        bestReheats();
        leastScrapAmongEquals();
        saved();
        digest();
        bitsOfShares();
        nothingChanges();
        CHECK.end();
    }
}
