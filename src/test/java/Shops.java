/** Shops for the tests, and calls that several tests make in the same way. */
final class Shops {
    private Shops() {
    }

    /** Appends a text to the buffer. */
    static void write(ForgeHeats shop, String text) {
        for (int index = 0; index < text.length(); index++) {
            shop.append(text.charAt(index));
        }
    }

    /** A shop whose buffer holds this text. */
    static ForgeHeats withText(String text) {
        ForgeHeats shop = new ForgeHeats();
        write(shop, text);
        return shop;
    }

    /** A shop with so many billets of heat 0. */
    static ForgeHeats withStock(int billets) {
        ForgeHeats shop = new ForgeHeats();
        shop.stock(0, billets);
        return shop;
    }

    /** A shop with one billet that lies at 1220 degrees on the press behind 9 minutes, for job 0. */
    static ForgeHeats withLoadedPress(int due) {
        ForgeHeats shop = withStock(1);
        shop.job(0, 0, 1, due, false);
        shop.pass(9);
        return shop;
    }

    /** A shop in which little is as it was at first. */
    static ForgeHeats busy() {
        ForgeHeats shop = new ForgeHeats();
        shop.stock(0, 30);
        shop.stock(1, 12);
        shop.range(1, 700, 1000);
        shop.die(1, 2, 11);
        shop.set(1, 90);
        shop.job(0, 0, 3, 40, false);
        shop.job(1, 1, 5, 20, true);
        shop.job(4, 2, 2, 7, false);
        shop.job(3, 0, 40, 9999, false);
        shop.pass(37);
        write(shop, "2d1h1@7!;");
        return shop;
    }
}
