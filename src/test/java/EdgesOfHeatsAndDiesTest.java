import java.util.function.Consumer;

/** Promises 1 to 5: each sentence of the document that names a boundary, tried on both sides of it. */
public final class EdgesOfHeatsAndDiesTest {
    private static final Check CHECK = new Check("EdgesOfHeatsAndDiesTest");
    private static final int[] NO_HEATS = {-1, 4, Integer.MIN_VALUE, Integer.MAX_VALUE};
    private static final int[] NO_DIES = {-1, 5, Integer.MIN_VALUE, Integer.MAX_VALUE};

    private static void refused(String what, Class<? extends RuntimeException> due, Consumer<ForgeHeats> call) {
        CHECK.asIfNotMade(what + " on a new shop", ForgeHeats::new, due, call);
        CHECK.asIfNotMade(what + " on a busy shop", Shops::busy, due, call);
    }

    // ---- promise 1

    /** "Creates a shop without stock and jobs, with an empty buffer." */
    private static void newShopIsEmpty() {
        for (int heat = 0; heat < 4; heat++) {
            CHECK.same("stock of a new shop", new ForgeHeats().heat(heat, 0), 0);
        }
        CHECK.same("jobs of a new shop", new ForgeHeats().count(1), 0);
        CHECK.same("the first place of a new shop", new ForgeHeats().jobOf(0, 0), ForgeHeats.NONE);
        CHECK.same("buffer of a new shop", new ForgeHeats().clearBuffer(), 0);
        CHECK.same("no character is wrong in it", new ForgeHeats().firstError(), 0);
    }

    /** "Undo: ... saved states": a new shop has none. */
    private static void newShopHasNothingToUndo() {
        CHECK.same("saved states of a new shop", new ForgeHeats().count(11), 0);
        CHECK.asIfNotMade("undo of a new shop", ForgeHeats::new, Check.STATE, ForgeHeats::undo);
    }

    /** "The minutes are counted from 0; at first 0 have gone." */
    private static void noMinuteHasGone() {
        CHECK.same("minutes of a new shop", new ForgeHeats().count(0), 0);
        ForgeHeats shop = new ForgeHeats();
        shop.pass(1);
        CHECK.same("behind the first", shop.count(0), 1);
    }

    /** What the terms say of "at first". */
    private static void firstValues() {
        ForgeHeats shop = new ForgeHeats();
        int[] settings = {150, 40, 1, 5};
        for (int setting = 0; setting < 4; setting++) {
            CHECK.same("setting " + setting + " at first", shop.setting(setting), settings[setting]);
        }
        for (int heat = 0; heat < 4; heat++) {
            CHECK.same("low at first", shop.heat(heat, 1), 900);
            CHECK.same("high at first", shop.heat(heat, 2), 1100);
        }
        for (int die = 0; die < 5; die++) {
            CHECK.same("blows at first", shop.dieOf(die, 0), 3);
            CHECK.same("limit at first", shop.dieOf(die, 1), 60);
            CHECK.same("wear at first", shop.dieOf(die, 2), 0);
            CHECK.same("not being ground at first", shop.dieOf(die, 3), 0);
        }
        for (int place = 0; place <= 6; place++) {
            CHECK.same("no billet at first", shop.billet(place, 0), ForgeHeats.NONE);
        }
    }

    // ---- promise 2

    /** "heat: 0 to 3", "Throws IndexOutOfBoundsException if there is no such heat". */
    private static void stockOfHeats() {
        ForgeHeats shop = new ForgeHeats();
        for (int heat = 0; heat <= 3; heat++) {
            CHECK.same("stock of heat " + heat, shop.stock(heat, 10 + heat), 10 + heat);
        }
        for (int heat = 0; heat <= 3; heat++) {
            CHECK.same("each has its own", shop.heat(heat, 0), 10 + heat);
        }
        for (int heat : NO_HEATS) {
            refused("stock of heat " + heat, Check.PLACE, twin -> twin.stock(heat, 1));
        }
    }

    /** "billets: 1 to 99", "Throws IllegalArgumentException if billets is out of range". */
    private static void stockOfBillets() {
        CHECK.same("1 billet", new ForgeHeats().stock(0, 1), 1);
        CHECK.same("99 billets", new ForgeHeats().stock(0, 99), 99);
        int[] wrong = {0, 100, -1, 200, Integer.MIN_VALUE, Integer.MAX_VALUE};
        for (int billets : wrong) {
            refused("stock of " + billets + " billets", Check.ARGUMENT, twin -> twin.stock(0, billets));
        }
    }

    /** "A heat has a stock of billets, 0 to 200", "if the stock would be above 200". */
    private static void stockUpTo200() {
        CHECK.same("199 and 1", withStockOf(199).stock(3, 1), 200);
        CHECK.same("101 and 99", withStockOf(101).stock(3, 99), 200);
        CHECK.asIfNotMade("199 and 2", () -> withStockOf(199), Check.STATE, shop -> shop.stock(3, 2));
        CHECK.asIfNotMade("102 and 99", () -> withStockOf(102), Check.STATE, shop -> shop.stock(3, 99));
        CHECK.asIfNotMade("200 and 1", () -> withStockOf(200), Check.STATE, shop -> shop.stock(3, 1));
        CHECK.same("another heat beside 200", withStockOf(200).stock(2, 1), 1);
        ForgeHeats shop = withStockOf(200);
        shop.job(0, 3, 1, 0, false);
        shop.pass(1);
        CHECK.same("room again behind a billet", shop.stock(3, 1), 200);
    }

    private static ForgeHeats withStockOf(int billets) {
        ForgeHeats shop = new ForgeHeats();
        for (int left = billets; left > 0; left -= 99) {
            shop.stock(3, Math.min(left, 99));
        }
        return shop;
    }

    /** "If several exceptions apply, the one that is named first in the throws clause is thrown." */
    private static void stockRefusedInOrder() {
        refused("no heat and no billets", Check.PLACE, shop -> shop.stock(4, 0));
        refused("no heat and 100 billets", Check.PLACE, shop -> shop.stock(-1, 100));
        CHECK.asIfNotMade("100 billets above 200", () -> withStockOf(200), Check.ARGUMENT,
            shop -> shop.stock(3, 100));
    }

    // ---- promise 3

    /** "heat: 0 to 3". */
    private static void rangeOfHeats() {
        ForgeHeats shop = new ForgeHeats();
        for (int heat = 0; heat <= 3; heat++) {
            CHECK.same("range of heat " + heat, shop.range(heat, 700 + heat, 1000 + heat), 9001100);
        }
        for (int heat = 0; heat <= 3; heat++) {
            CHECK.same("low of heat " + heat, shop.heat(heat, 1), 700 + heat);
            CHECK.same("high of heat " + heat, shop.heat(heat, 2), 1000 + heat);
        }
        for (int heat : NO_HEATS) {
            refused("range of heat " + heat, Check.PLACE, twin -> twin.range(heat, 900, 1100));
        }
    }

    /** "low: 600 to 1240". */
    private static void lowOfRange() {
        ForgeHeats shop = new ForgeHeats();
        shop.range(1, 600, 1100);
        CHECK.same("low 600", shop.heat(1, 1), 600);
        shop.range(1, 1240, 1240);
        CHECK.same("low 1240", shop.heat(1, 1), 1240);
        int[] wrong = {599, 0, -900, Integer.MIN_VALUE};
        for (int low : wrong) {
            refused("low " + low, Check.ARGUMENT, twin -> twin.range(1, low, 1100));
        }
        int[] tooHigh = {1241, Integer.MAX_VALUE};
        for (int low : tooHigh) {
            refused("low " + low, Check.ARGUMENT, twin -> twin.range(1, low, low));
        }
        refused("low 1241 above high", Check.ARGUMENT, twin -> twin.range(1, 1241, 1240));
    }

    /** "high: low to 1240". */
    private static void highOfRange() {
        ForgeHeats shop = new ForgeHeats();
        shop.range(2, 900, 900);
        CHECK.same("high as low", shop.heat(2, 2), 900);
        shop.range(2, 900, 1240);
        CHECK.same("high 1240", shop.heat(2, 2), 1240);
        shop.range(2, 600, 600);
        CHECK.same("both 600", shop.heat(2, 2), 600);
        int[] wrong = {899, 1241, 600, -1, Integer.MIN_VALUE, Integer.MAX_VALUE};
        for (int high : wrong) {
            refused("high " + high, Check.ARGUMENT, twin -> twin.range(2, 900, high));
        }
        refused("high 599 of low 600", Check.ARGUMENT, twin -> twin.range(2, 600, 599));
        refused("high 1239 of low 1240", Check.ARGUMENT, twin -> twin.range(2, 1240, 1239));
    }

    /** "Returns 10000 times the previous low temperature and the previous high one, together." */
    private static void rangeReturnsThePrevious() {
        ForgeHeats shop = new ForgeHeats();
        CHECK.same("the first ones", shop.range(3, 600, 600), 9001100);
        CHECK.same("the least ones", shop.range(3, 1240, 1240), 6000600);
        CHECK.same("the highest ones", shop.range(3, 601, 1239), 12401240);
        CHECK.same("others", shop.range(3, 601, 1239), 6011239);
        CHECK.same("the same again", shop.range(3, 600, 600), 6011239);
    }

    private static void rangeRefusedInOrder() {
        refused("no heat and low 599", Check.PLACE, shop -> shop.range(4, 599, 1100));
        refused("no heat and high 1241", Check.PLACE, shop -> shop.range(-1, 900, 1241));
    }

    // ---- promise 4

    /** "die: 0 to 4". */
    private static void dieOfDies() {
        ForgeHeats shop = new ForgeHeats();
        for (int die = 0; die <= 4; die++) {
            CHECK.same("die " + die, shop.die(die, 1 + die, 20 + die), 0);
        }
        for (int die = 0; die <= 4; die++) {
            CHECK.same("blows of die " + die, shop.dieOf(die, 0), 1 + die);
            CHECK.same("limit of die " + die, shop.dieOf(die, 1), 20 + die);
        }
        for (int die : NO_DIES) {
            refused("die " + die, Check.PLACE, twin -> twin.die(die, 3, 60));
        }
    }

    /** "blows: 1 to 9", "if blows or limit is out of range". */
    private static void blowsOfDie() {
        ForgeHeats shop = new ForgeHeats();
        shop.die(2, 1, 60);
        CHECK.same("1 blow", shop.dieOf(2, 0), 1);
        shop.die(2, 9, 60);
        CHECK.same("9 blows", shop.dieOf(2, 0), 9);
        int[] wrong = {0, 10, -1, Integer.MIN_VALUE, Integer.MAX_VALUE};
        for (int blows : wrong) {
            refused(blows + " blows", Check.ARGUMENT, twin -> twin.die(2, blows, 60));
        }
    }

    /** "limit: 10 to 300". */
    private static void limitOfDie() {
        ForgeHeats shop = new ForgeHeats();
        shop.die(2, 3, 10);
        CHECK.same("limit 10", shop.dieOf(2, 1), 10);
        shop.die(2, 3, 300);
        CHECK.same("limit 300", shop.dieOf(2, 1), 300);
        int[] wrong = {9, 301, 0, -10, Integer.MIN_VALUE, Integer.MAX_VALUE};
        for (int limit : wrong) {
            refused("limit " + limit, Check.ARGUMENT, twin -> twin.die(2, 3, limit));
        }
    }

    /** "Changes a die (billets that there are keep their blows)". */
    private static void billetsKeepTheirBlows() {
        ForgeHeats shop = Shops.withStock(3);
        shop.job(0, 0, 3, 0, false);
        shop.pass(9);
        shop.die(0, 9, 60);
        CHECK.same("on the press", shop.billet(6, 3), 3);
        CHECK.same("in the furnace", shop.billet(1, 3), 3);
        CHECK.same("the piece takes three blows", shop.pass(3), 1);
        shop.stock(0, 1);
        shop.job(0, 0, 1, 1, false);
        shop.pass(1);
        CHECK.same("a billet that comes then", shop.billet(0, 3), 9);
    }

    /** "its wear becomes 0", "Returns its previous wear." */
    private static void dieWithoutWear() {
        ForgeHeats shop = wornToTheLimit();
        CHECK.same("wear before", shop.dieOf(0, 2), 10);
        CHECK.same("its job waits for the die", shop.jobOf(0, 7), 2);
        CHECK.same("the wear is returned", shop.die(0, 3, 10), 10);
        CHECK.same("no wear", shop.dieOf(0, 2), 0);
        CHECK.same("none again", shop.die(0, 3, 10), 0);
        CHECK.same("its job waits for stock, no longer for the die", shop.jobOf(0, 7), 3);
    }

    /** A shop whose die 0 is worn out by as much as its limit, while die 4 is being ground. */
    private static ForgeHeats wornToTheLimit() {
        ForgeHeats shop = Shops.withStock(2);
        shop.range(0, 600, 600);
        shop.set(1, 1);
        shop.set(3, 30);
        shop.die(0, 5, 10);
        shop.grind(4);
        shop.job(0, 0, 3, 0, false);
        shop.pass(16);
        return shop;
    }

    /** "Throws IllegalStateException if it is being ground". */
    private static void dieWhileGround() {
        CHECK.asIfNotMade("a die being ground", EdgesOfHeatsAndDiesTest::grinding, Check.STATE,
            shop -> shop.die(1, 3, 60));
        for (int die = 0; die < 5; die++) {
            if (die != 1) {
                CHECK.same("die " + die + " beside it", grinding().die(die, 4, 40), 0);
            }
        }
        ForgeHeats shop = grinding();
        shop.pass(4);
        CHECK.thrown("in its last minute", Check.STATE, () -> shop.die(1, 3, 60));
        shop.pass(1);
        CHECK.same("behind its last minute", shop.die(1, 3, 60), 0);
    }

    private static ForgeHeats grinding() {
        ForgeHeats shop = new ForgeHeats();
        shop.grind(1);
        return shop;
    }

    private static void dieRefusedInOrder() {
        refused("no die and no blows", Check.PLACE, shop -> shop.die(5, 0, 60));
        refused("no die and limit 9", Check.PLACE, shop -> shop.die(-1, 3, 9));
        CHECK.asIfNotMade("no blows while being ground", EdgesOfHeatsAndDiesTest::grinding, Check.ARGUMENT,
            shop -> shop.die(1, 0, 60));
        CHECK.asIfNotMade("limit 301 while being ground", EdgesOfHeatsAndDiesTest::grinding, Check.ARGUMENT,
            shop -> shop.die(1, 3, 301));
    }

    // ---- promise 5

    /** "die: 0 to 4". */
    private static void grindOfDies() {
        for (int die = 0; die <= 4; die++) {
            ForgeHeats shop = new ForgeHeats();
            CHECK.same("grind " + die, shop.grind(die), 0);
            CHECK.same("being ground", shop.count(10), die);
            CHECK.same("for five minutes", shop.dieOf(die, 3), 5);
        }
        for (int die : NO_DIES) {
            CHECK.asIfNotMade("grind " + die, ForgeHeats::new, Check.PLACE, shop -> shop.grind(die));
            CHECK.asIfNotMade("grind " + die, Shops::busy, Check.PLACE, shop -> shop.grind(die));
        }
    }

    /** "Returns its wear": also the whole wear of a die that is worn out. */
    private static void grindReturnsTheWear() {
        CHECK.same("no wear", new ForgeHeats().grind(0), 0);
        ForgeHeats worn = wornToTheLimit();
        worn.pass(14);
        CHECK.same("its turn has come", worn.count(10), 0);
        ForgeHeats shop = Shops.withLoadedPress(0);
        shop.pass(2);
        CHECK.same("a wear of 2", shop.grind(0), 2);
        CHECK.same("the wear stays as long", shop.dieOf(0, 2), 2);
    }

    /** "Throws IllegalStateException if a die is being ground". */
    private static void grindWhileOneIsGround() {
        for (int die = 0; die <= 4; die++) {
            int which = die;
            CHECK.asIfNotMade("grind " + die + " beside die 1", EdgesOfHeatsAndDiesTest::grinding, Check.STATE,
                shop -> shop.grind(which));
        }
        ForgeHeats shop = grinding();
        shop.pass(4);
        CHECK.thrown("in its last minute", Check.STATE, () -> shop.grind(0));
        shop.pass(1);
        CHECK.same("behind its last minute", shop.grind(0), 0);
    }

    private static void grindRefusedInOrder() {
        CHECK.asIfNotMade("no die while one is ground", EdgesOfHeatsAndDiesTest::grinding, Check.PLACE,
            shop -> shop.grind(5));
        CHECK.asIfNotMade("die -1 while one is ground", EdgesOfHeatsAndDiesTest::grinding, Check.PLACE,
            shop -> shop.grind(-1));
    }

    /** "It can be ground: that takes setting 3 minutes": 1 to 30 of them. */
    private static void minutesOfGrinding() {
        int[] minutes = {1, 2, 30};
        for (int count : minutes) {
            ForgeHeats shop = new ForgeHeats();
            shop.set(3, count);
            shop.grind(3);
            CHECK.same("to go of " + count, shop.dieOf(3, 3), count);
            if (count > 1) {
                shop.pass(count - 1);
            }
            CHECK.same("still being ground", shop.count(10), 3);
            CHECK.same("one minute to go", shop.dieOf(3, 3), 1);
            shop.pass(1);
            CHECK.same("no longer", shop.count(10), ForgeHeats.NONE);
            CHECK.same("none to go", shop.dieOf(3, 3), 0);
            CHECK.same("ground once", shop.dieOf(3, 5), 1);
        }
    }

    public static void main(String[] args) {
        newShopIsEmpty();
        newShopHasNothingToUndo();
        noMinuteHasGone();
        firstValues();
        stockOfHeats();
        stockOfBillets();
        stockUpTo200();
        stockRefusedInOrder();
        rangeOfHeats();
        lowOfRange();
        highOfRange();
        rangeReturnsThePrevious();
        rangeRefusedInOrder();
        dieOfDies();
        blowsOfDie();
        limitOfDie();
        billetsKeepTheirBlows();
        dieWithoutWear();
        dieWhileGround();
        dieRefusedInOrder();
        grindOfDies();
        grindReturnsTheWear();
        grindWhileOneIsGround();
        grindRefusedInOrder();
        minutesOfGrinding();
        CHECK.end();
    }
}
