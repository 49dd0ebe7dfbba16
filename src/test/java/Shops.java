/** Shops for the tests, and calls that several tests make in the same way. */
final class Shops {
    private Shops() {
    }

    /** Appends a text to the buffer. */
    static void write(ForgeHeats shop, String text) {
        for (int index = 0; index < text.length(); index++) {
            shop.append(text.charAt(index));
        }
    }

    /** A shop whose buffer holds this text. */
    static ForgeHeats withText(String text) {
        ForgeHeats shop = new ForgeHeats();
        write(shop, text);
        return shop;
    }

    /** A shop with so many billets of heat 0. */
    static ForgeHeats withStock(int billets) {
        ForgeHeats shop = new ForgeHeats();
        shop.stock(0, billets);
        return shop;
    }

    /** A shop with one billet that lies at 1220 degrees on the press behind 9 minutes, for job 0. */
    static ForgeHeats withLoadedPress(int due) {
        ForgeHeats shop = withStock(1);
        shop.job(0, 0, 1, due, false);
        shop.pass(9);
        return shop;
    }

    /** A shop in which little is as it was at first. */
    static ForgeHeats busy() {
        ForgeHeats shop = new ForgeHeats();
        shop.stock(0, 30);
        shop.stock(1, 12);
        shop.range(1, 700, 1000);
        shop.die(1, 2, 11);
        shop.set(1, 90);
        shop.job(0, 0, 3, 40, false);
        shop.job(1, 1, 5, 20, true);
        shop.job(4, 2, 2, 7, false);
        shop.job(3, 0, 40, 9999, false);
        shop.pass(37);
        write(shop, "2d1h1@7!;");
        return shop;
    }

    /** A shop with one billet that lies at 600 degrees, its low and its high temperature, on the press. */
    static ForgeHeats with600OnPress(int blows, int due) {
        ForgeHeats shop = withStock(1);
        shop.range(0, 600, 600);
        shop.die(0, blows, 300);
        shop.set(0, 290);
        shop.job(0, 0, 1, due, false);
        shop.pass(3);
        return shop;
    }

    /** A shop with ten jobs, numbered as they are ordered, and no stock. */
    static ForgeHeats withTenJobs() {
        ForgeHeats shop = withText("1d0h0;1d0h0;1d0h0;1d0h0;1d0h0;1d0h0;1d0h0;1d0h0;1d0h0;1d0h0");
        shop.addAll();
        return shop;
    }

    /** A shop with a full furnace and a job that lacks billets, whose die is being ground for long. */
    static ForgeHeats withFullFurnace() {
        ForgeHeats shop = withStock(9);
        shop.set(3, 30);
        shop.grind(0);
        shop.job(0, 0, 9, 0, false);
        shop.pass(6);
        return shop;
    }

    /** A shop in which so many minutes are left before the last one. */
    static ForgeHeats beforeTheLastMinute(int left) {
        ForgeHeats shop = new ForgeHeats();
        for (int rest = 9999 - left; rest > 0; rest -= 120) {
            shop.pass(Math.min(rest, 120));
        }
        return shop;
    }
}
