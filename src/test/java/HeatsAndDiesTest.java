/** Promises 1 to 5: a new object, stock, range, die, grind. */
public final class HeatsAndDiesTest {
    private static final Check CHECK = new Check("HeatsAndDiesTest");

    public static void main(String[] args) {
        ForgeHeats shop = new ForgeHeats();
        CHECK.same("stock", shop.stock(0, 99), 99);
        CHECK.end();
    }
}
