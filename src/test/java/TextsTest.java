/** Promises 11 to 15: append, clearBuffer, firstError, addAll, undo. */
public final class TextsTest {
    private static final Class<IllegalArgumentException> ARGUMENT = IllegalArgumentException.class;
    private static final Class<IllegalStateException> STATE = IllegalStateException.class;
    private static final Check CHECK = new Check("TextsTest");

    private static void append() {
        ForgeHeats shop = new ForgeHeats();
        CHECK.same("append 33", shop.append(33), 1);
        CHECK.same("append 126", shop.append(126), 2);
        int[] wrong = {32, 127, 0, -1, 65569, Integer.MAX_VALUE, Integer.MIN_VALUE};
        for (int code : wrong) {
            CHECK.refused("append " + code, shop, ARGUMENT, () -> shop.append(code));
        }
        for (int length = 3; length <= 60; length++) {
            CHECK.same("append", shop.append(49), length);
        }
        CHECK.refused("append to 60", shop, STATE, () -> shop.append(49));
        CHECK.refused("code before state", shop, ARGUMENT, () -> shop.append(127));
        CHECK.same("no state is saved", shop.count(11), 0);
        CHECK.same("clear 60", shop.clearBuffer(), 60);
        CHECK.same("clear none", shop.clearBuffer(), 0);
        CHECK.same("append again", shop.append(49), 1);
        CHECK.same("clear one", shop.clearBuffer(), 1);
        CHECK.same("still no state is saved", shop.count(11), 0);
    }

    private static void firstError() {
        Object[] rows = {
            "", 0, "0", 0, "d", 0, ";", 0, "!", 0, "@", 0, "x", 0, "1", 1, "9", 1, "10", 2, "39", 2,
            "40", 2, "41", 1, "49", 1, "50", 1, "99", 1, "400", 2, "100", 2, "1d", 2, "40d", 3, "1D", 1,
            "1h", 1, "1;", 1, "1!", 1, "1@", 1, "1d0", 3, "1d4", 3, "1d5", 2, "1dd", 2, "1d;", 2, "1d00", 3,
            "1d0d", 3, "1d0;", 3, "1d0!", 3, "1d0h", 4, "1d0H", 3, "1d0h0", 5, "1d0h3", 5, "1d0h4", 4,
            "1d0h;", 4, "1d0h00", 5, "1d0hd", 4, "1d0h0d", 5, "1d0h0@", 6, "1d0h0@0", 7, "1d0h0@00", 7,
            "1d0h0@05", 7, "1d0h0@5", 7, "1d0h0@9999", 10, "1d0h0@99999", 10, "1d0h0@10000", 10,
            "1d0h0@1000", 10, "1d0h0@!", 6, "1d0h0@;", 6, "1d0h0@@", 6, "1d0h0@5@", 7, "1d0h0@x", 6,
            "1d0h0@5x", 7, "1d0h0!", 6, "1d0h0!!", 6, "1d0h0!@5", 6, "1d0h0!1", 6, "1d0h0@5!", 8,
            "1d0h0@5!!", 8, "1d0h0@0!", 8, "1d0h0;", 6, "1d0h0;;", 6, "1d0h0;0", 6, "1d0h0;d", 6,
            "1d0h0;1", 7, "1d0h0@5;", 8, "1d0h0!;", 7, "1d0h0@5!;7d2h1@30;40d4h3", 24, "1d0h0@5!;7d2h4", 13,
            "1d0h0;1d0h0;1d0h0;1d0h0;1d0h0;1d0h0;1d0h0;1d0h0;1d0h0;1d0h0;", 60,
            "-1", 0, "+1", 0, "1d0h0,", 5, "~", 0, "d0x", 0, "05d1h1", 0, "1d0h0@9999!;", 12, "1:", 1, "1/", 1,
            "1d:", 2, "1d/", 2, "1d0h/", 4, "1d0h0@:", 6, "1d0h0@1/", 7,
        };
        for (int row = 0; row + 1 < rows.length; row += 2) {
            String text = (String) rows[row];
            ForgeHeats shop = Shops.withText(text);
            CHECK.same("first error of " + text, shop.firstError(), (Integer) rows[row + 1]);
            CHECK.same("first error again of " + text, shop.firstError(), (Integer) rows[row + 1]);
            CHECK.same("the buffer stays, " + text, shop.clearBuffer(), text.length());
        }
    }

    private static void refusedTexts() {
        String[] texts = {
            "", "1", "40", "1d", "1d0", "1d0h", "1d0h0@", "1d0h0;", "1d0h0!;", "1d0h0@5;", "1d0h0;1d0h",
            "41d0h0", "0d0h0", "1d5h0", "1d0h4", "1d0h0!!", "1d0h0@05", "1d0h0;;1d0h0", ";1d0h0",
            "1d0h0@10000", "1d0h0x", "1d0h0!@5", "x",
        };
        for (String text : texts) {
            ForgeHeats shop = Shops.withText(text);
            CHECK.refused("addAll of " + text, shop, ARGUMENT, shop::addAll);
            CHECK.same("no jobs of " + text, shop.count(1), 0);
            CHECK.same("the buffer stays, " + text, shop.clearBuffer(), text.length());
        }
    }

    private static void job(String what, ForgeHeats shop, int place, int... properties) {
        for (int index = 0; index < properties.length; index++) {
            CHECK.same(what + ", place " + place + ", property " + index,
                shop.jobOf(place, index), properties[index]);
        }
    }

    private static void addAll() {
        ForgeHeats shop = new ForgeHeats();
        shop.job(0, 0, 9, 8, false);
        Shops.write(shop, "40d4h3!;1d0h0@0;12d3h2@9999;7d2h1@8!;3d1h1;20d0h1@70");
        CHECK.same("addAll", shop.addAll(), 7);
        job("the second rush job", shop, 1, 1, 4, 3, 40, 0, 9999, 1);
        job("the first rush job", shop, 0, 4, 2, 1, 7, 0, 8, 1);
        job("due 0", shop, 2, 2, 0, 0, 1, 0, 0, 0);
        job("the job before", shop, 3, 0, 0, 0, 9, 0, 8, 0);
        job("due 70", shop, 4, 6, 0, 1, 20, 0, 70, 0);
        job("due 9999", shop, 5, 3, 3, 2, 12, 0, 9999, 0);
        job("without a due minute", shop, 6, 5, 1, 1, 3, 0, 9999, 0);
        CHECK.same("an empty buffer", shop.clearBuffer(), 0);
        CHECK.same("saved as one call", shop.count(11), 2);
        CHECK.same("undone as one call", shop.undo(), 1);
        CHECK.same("the jobs are away", shop.count(1), 1);
        CHECK.same("the buffer does not come back", shop.clearBuffer(), 0);
        CHECK.same("the next number", shop.job(0, 0, 1, 0, false), 1);
        Shops.write(shop, "5d1h2");
        CHECK.same("one part", shop.addAll(), 3);
        Shops.write(shop, "6d1h2@31");
        CHECK.same("a due minute at the end", shop.addAll(), 4);
        job("due 31", shop, 2, 3, 1, 2, 6, 0, 31, 0);
        Shops.write(shop, "8d1h2@1!;9d3h1@2!");
        CHECK.same("two parts", shop.addAll(), 6);
        job("the first of two", shop, 0, 4, 1, 2, 8, 0, 1, 1);
        job("the second of two", shop, 1, 5, 3, 1, 9, 0, 2, 1);
    }

    private static void tenJobs() {
        String five = "1d0h0;2d1h1;3d2h2;4d3h3;5d4h0";
        ForgeHeats shop = Shops.withText(five + ";" + five);
        CHECK.same("ten at once", shop.addAll(), 10);
        Shops.write(shop, "1d0h0");
        CHECK.refused("eleven", shop, STATE, shop::addAll);
        Shops.write(shop, ";");
        CHECK.refused("text before state", shop, ARGUMENT, shop::addAll);
        shop.cancel(0);
        shop.clearBuffer();
        Shops.write(shop, "1d0h0;1d0h0");
        CHECK.refused("nine and two", shop, STATE, shop::addAll);
        CHECK.same("none of them", shop.count(1), 9);
        CHECK.same("the buffer is kept", shop.clearBuffer(), 11);
        Shops.write(shop, "1d0h0");
        CHECK.same("nine and one", shop.addAll(), 10);
    }

    private static void undo() {
        ForgeHeats shop = new ForgeHeats();
        CHECK.refused("nothing to undo", shop, STATE, shop::undo);
        int[] stocks = new int[9];
        for (int call = 1; call <= 8; call++) {
            shop.stock(0, call);
            stocks[call] = shop.heat(0, 0);
            CHECK.same("saved states", shop.count(11), Math.min(6, call));
        }
        for (int left = 5; left >= 0; left--) {
            CHECK.same("states left", shop.undo(), left);
            CHECK.same("the state before", shop.heat(0, 0), stocks[left + 2]);
        }
        CHECK.same("the stock of two calls", shop.heat(0, 0), 3);
        CHECK.refused("the oldest are dropped", shop, STATE, shop::undo);
        shop.stock(1, 5);
        shop.range(1, 600, 700);
        CHECK.same("undo the range", shop.undo(), 1);
        CHECK.same("the low temperature", shop.heat(1, 1), 900);
        shop.set(0, 10);
        CHECK.same("undo the setting", shop.undo(), 1);
        CHECK.same("undo the stock", shop.undo(), 0);
        CHECK.same("no stock", shop.heat(1, 0), 0);
        CHECK.refused("no state again", shop, STATE, shop::undo);
    }

    private static void undoLeavesTheBuffer() {
        ForgeHeats shop = Shops.withLoadedPress(0);
        shop.append('4');
        shop.append('d');
        long before = shop.digest();
        shop.pass(30);
        CHECK.same("a piece", shop.count(4), 1);
        shop.append('0');
        shop.undo();
        CHECK.same("the buffer is as it was left", shop.clearBuffer(), 3);
        shop.append('4');
        shop.append('d');
        CHECK.same("all else is as before", shop.digest(), before);
        CHECK.same("the pieces too", shop.count(4), 0);
    }

    public static void main(String[] args) {
        append();
        firstError();
        refusedTexts();
        addAll();
        tenJobs();
        undo();
        undoLeavesTheBuffer();
        CHECK.end();
    }
}
