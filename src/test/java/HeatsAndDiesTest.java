/** Promises 1 to 5: a new object, stock, range, die, grind. */
public final class HeatsAndDiesTest {
    private static final Class<IndexOutOfBoundsException> PLACE = IndexOutOfBoundsException.class;
    private static final Class<IllegalArgumentException> ARGUMENT = IllegalArgumentException.class;
    private static final Class<IllegalStateException> STATE = IllegalStateException.class;
    private static final Check CHECK = new Check("HeatsAndDiesTest");

    private static void newObject() {
        ForgeHeats shop = new ForgeHeats();
        CHECK.same("NONE", ForgeHeats.NONE, -1);
        for (int what = 0; what <= 11; what++) {
            CHECK.same("new count " + what, shop.count(what), what == 10 ? -1 : 0);
        }
        int[] settings = {150, 40, 1, 5};
        int[] heat = {0, 900, 1100, 0, 0, 0, 0};
        int[] die = {3, 60, 0, 0, 0, 0};
        for (int setting = 0; setting < 4; setting++) {
            CHECK.same("new setting " + setting, shop.setting(setting), settings[setting]);
        }
        for (int number = 0; number < 4; number++) {
            for (int what = 0; what <= 6; what++) {
                CHECK.same("new heat " + number + " " + what, shop.heat(number, what), heat[what]);
            }
        }
        for (int number = 0; number < 5; number++) {
            for (int what = 0; what <= 5; what++) {
                CHECK.same("new die " + number + " " + what, shop.dieOf(number, what), die[what]);
            }
        }
        for (int place = 0; place <= 6; place++) {
            for (int what = 0; what <= 3; what++) {
                CHECK.same("new billet " + place, shop.billet(place, what), -1);
            }
        }
        CHECK.same("new job", shop.jobOf(0, 0), -1);
        CHECK.same("new saved", shop.saved(), 1.0);
        CHECK.same("new digest", shop.digest(), new Model().digest());
        CHECK.same("new buffer", shop.clearBuffer(), 0);
        CHECK.refused("new undo", shop, STATE, shop::undo);
        CHECK.same("first number", shop.job(0, 0, 1, 0, false), 0);
        CHECK.same("another object", new ForgeHeats().count(1), 0);
    }

    private static void stock() {
        ForgeHeats shop = new ForgeHeats();
        CHECK.same("stock", shop.stock(3, 1), 1);
        CHECK.same("more stock", shop.stock(3, 99), 100);
        CHECK.same("stock again", shop.stock(3, 99), 199);
        CHECK.refused("stock above 200", shop, STATE, () -> shop.stock(3, 2));
        CHECK.same("stock of 200", shop.stock(3, 1), 200);
        CHECK.refused("stock of 201", shop, STATE, () -> shop.stock(3, 1));
        CHECK.same("the stock", shop.heat(3, 0), 200);
        CHECK.same("other stock", shop.heat(2, 0), 0);
        CHECK.same("stock of heat 0", shop.stock(0, 7), 7);
        CHECK.refused("stock of heat -1", shop, PLACE, () -> shop.stock(-1, 0));
        CHECK.refused("stock of heat 4", shop, PLACE, () -> shop.stock(4, 1));
        CHECK.refused("0 billets", shop, ARGUMENT, () -> shop.stock(0, 0));
        CHECK.refused("100 billets", shop, ARGUMENT, () -> shop.stock(0, 100));
        CHECK.refused("billets before state", shop, ARGUMENT, () -> shop.stock(3, 100));
        CHECK.refused("most billets", shop, ARGUMENT, () -> shop.stock(0, Integer.MAX_VALUE));
        CHECK.refused("least billets", shop, ARGUMENT, () -> shop.stock(0, Integer.MIN_VALUE));
        ForgeHeats other = Shops.busy();
        CHECK.undoable("stock", other, () -> other.stock(2, 50));
        CHECK.same("stock behind undo", other.heat(2, 0), 50);
    }

    private static void range() {
        ForgeHeats shop = new ForgeHeats();
        CHECK.same("range", shop.range(0, 600, 1240), 9001100);
        CHECK.same("range again", shop.range(0, 600, 600), 6001240);
        CHECK.same("low as high", shop.range(0, 1240, 1240), 6000600);
        CHECK.same("highest range", shop.range(0, 1000, 1001), 12401240);
        CHECK.same("low", shop.heat(0, 1), 1000);
        CHECK.same("high", shop.heat(0, 2), 1001);
        CHECK.same("other low", shop.heat(1, 1), 900);
        CHECK.refused("range of heat -1", shop, PLACE, () -> shop.range(-1, 599, 1241));
        CHECK.refused("range of heat 4", shop, PLACE, () -> shop.range(4, 900, 1100));
        CHECK.refused("low of 599", shop, ARGUMENT, () -> shop.range(3, 599, 1100));
        CHECK.refused("low of 1241", shop, ARGUMENT, () -> shop.range(3, 1241, 1241));
        CHECK.refused("high of 1241", shop, ARGUMENT, () -> shop.range(3, 900, 1241));
        CHECK.refused("high below low", shop, ARGUMENT, () -> shop.range(3, 900, 899));
        ForgeHeats other = Shops.busy();
        CHECK.undoable("range", other, () -> other.range(0, 650, 1200));
        CHECK.undoable("the same range", other, () -> other.range(0, 650, 1200));
    }

    private static void die() {
        ForgeHeats shop = Shops.withLoadedPress(0);
        shop.pass(2);
        CHECK.same("wear", shop.dieOf(0, 2), 2);
        CHECK.same("die returns its wear", shop.die(0, 9, 300), 2);
        CHECK.same("wear of a new die", shop.dieOf(0, 2), 0);
        CHECK.same("blows of the die", shop.dieOf(0, 0), 9);
        CHECK.same("limit of the die", shop.dieOf(0, 1), 300);
        CHECK.same("other die", shop.dieOf(1, 0), 3);
        CHECK.same("the billet keeps its blows", shop.billet(6, 3), 1);
        CHECK.same("least die", shop.die(4, 1, 10), 0);
        CHECK.same("least blows", shop.dieOf(4, 0), 1);
        CHECK.same("least limit", shop.dieOf(4, 1), 10);
        CHECK.refused("die -1", shop, PLACE, () -> shop.die(-1, 0, 9));
        CHECK.refused("die 5", shop, PLACE, () -> shop.die(5, 1, 10));
        CHECK.refused("0 blows", shop, ARGUMENT, () -> shop.die(0, 0, 10));
        CHECK.refused("10 blows", shop, ARGUMENT, () -> shop.die(0, 10, 10));
        CHECK.refused("limit 9", shop, ARGUMENT, () -> shop.die(0, 1, 9));
        CHECK.refused("limit 301", shop, ARGUMENT, () -> shop.die(0, 1, 301));
        shop.grind(0);
        CHECK.refused("a die being ground", shop, STATE, () -> shop.die(0, 1, 10));
        CHECK.refused("blows before state", shop, ARGUMENT, () -> shop.die(0, 0, 10));
        CHECK.same("another die than that", shop.die(1, 2, 20), 0);
        shop.pass(5);
        CHECK.same("a die behind grinding", shop.die(0, 3, 60), 0);
        ForgeHeats other = Shops.busy();
        CHECK.undoable("die", other, () -> other.die(3, 7, 100));
    }

    private static void grind() {
        ForgeHeats shop = Shops.withLoadedPress(0);
        shop.pass(1);
        shop.set(3, 2);
        CHECK.same("grind returns the wear", shop.grind(0), 1);
        CHECK.same("minutes to go", shop.dieOf(0, 3), 2);
        CHECK.same("wear stays", shop.dieOf(0, 2), 1);
        CHECK.same("the die that is ground", shop.count(10), 0);
        CHECK.refused("grind it again", shop, STATE, () -> shop.grind(0));
        CHECK.refused("grind another", shop, STATE, () -> shop.grind(4));
        CHECK.refused("die before state", shop, PLACE, () -> shop.grind(5));
        CHECK.refused("grind -1", shop, PLACE, () -> shop.grind(-1));
        shop.set(3, 30);
        shop.pass(1);
        CHECK.same("the setting counts at the begin", shop.dieOf(0, 3), 1);
        CHECK.same("not ground yet", shop.dieOf(0, 5), 0);
        shop.pass(1);
        CHECK.same("no minutes to go", shop.dieOf(0, 3), 0);
        CHECK.same("ground", shop.dieOf(0, 5), 1);
        CHECK.same("no wear", shop.dieOf(0, 2), 0);
        CHECK.same("limit less", shop.dieOf(0, 1), 55);
        CHECK.same("none is ground", shop.count(10), -1);
        CHECK.undoable("grind", shop, () -> shop.grind(4));
        CHECK.same("the longest grinding", shop.dieOf(4, 3), 30);
    }

    private static void limitEnds() {
        ForgeHeats shop = new ForgeHeats();
        shop.set(3, 1);
        shop.die(2, 3, 16);
        int[] limits = {11, 10, 10};
        for (int limit : limits) {
            shop.grind(2);
            shop.pass(1);
            CHECK.same("limit", shop.dieOf(2, 1), limit);
        }
        CHECK.same("ground three times", shop.dieOf(2, 5), 3);
        CHECK.same("another die's limit", shop.dieOf(1, 1), 60);
    }

    public static void main(String[] args) {
        newObject();
        stock();
        range();
        die();
        grind();
        limitEnds();
        CHECK.end();
    }
}
