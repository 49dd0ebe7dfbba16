/** Promises 11 to 14 and the document's "Input text": each boundary that they name, tried on both sides of it. */
public final class EdgesOfTextsTest {
    private static final Check CHECK = new Check("EdgesOfTextsTest");
    private static final String NINE = "1d0h0;1d0h0;1d0h0;1d0h0;1d0h0;1d0h0;1d0h0;1d0h0;1d0h0";
    private static final String TEN = NINE + ";1d0h0";

    private static void errorAt(String text, int index) {
        CHECK.same("first error of " + text, Shops.withText(text).firstError(), index);
    }

    /** Every character of the text may stand where it stands. */
    private static void noErrorIn(String... texts) {
        for (String text : texts) {
            errorAt(text, text.length());
        }
    }

    /** The last character of the text is its first error; a right text behind it does not mend it. */
    private static void errorAtTheEndOf(String... texts) {
        for (String text : texts) {
            errorAt(text, text.length() - 1);
            errorAt(text + ";1d0h0", text.length() - 1);
            refusedText(text);
        }
    }

    private static void refusedText(String text) {
        CHECK.asIfNotMade("addAll of " + text, () -> Shops.withText(text), Check.ARGUMENT, ForgeHeats::addAll);
    }

    // ---- promise 11

    /** "code: the character code, 33 to 126", "Throws IllegalArgumentException if code is not 33 to 126". */
    private static void codesOfAppend() {
        for (int code = 33; code <= 126; code++) {
            ForgeHeats shop = new ForgeHeats();
            CHECK.same("append " + code, shop.append(code), 1);
            CHECK.same("it is held", shop.digest(), Shops.withText(String.valueOf((char) code)).digest());
        }
        int[] wrong = {32, 127, 0, 10, -1, 128, 255, 33 + 65536, 33 - 65536, Integer.MIN_VALUE, Integer.MAX_VALUE};
        for (int code : wrong) {
            CHECK.asIfNotMade("append " + code, ForgeHeats::new, Check.ARGUMENT, shop -> shop.append(code));
            CHECK.asIfNotMade("append " + code, Shops::busy, Check.ARGUMENT, shop -> shop.append(code));
        }
    }

    /** "The buffer has at most 60 characters", "if the buffer has 60 characters". */
    private static void roomOfTheBuffer() {
        ForgeHeats shop = new ForgeHeats();
        for (int length = 1; length <= 60; length++) {
            CHECK.same("the new length", shop.append('1'), length);
        }
        CHECK.asIfNotMade("the 61st character", EdgesOfTextsTest::withFullBuffer, Check.STATE,
            full -> full.append('1'));
        CHECK.asIfNotMade("the 61st, of another code", EdgesOfTextsTest::withFullBuffer, Check.STATE,
            full -> full.append(126));
        shop.clearBuffer();
        CHECK.same("room again", shop.append('1'), 1);
        ForgeHeats added = withFullBuffer();
        CHECK.same("a full buffer of jobs", added.addAll(), 10);
        CHECK.same("room behind them", added.append('1'), 1);
    }

    /** Ten jobs, the last one a rush job, are 60 characters. */
    private static ForgeHeats withFullBuffer() {
        return Shops.withText(TEN + "!");
    }

    /** "If several exceptions apply, the one that is named first in the throws clause is thrown." */
    private static void appendRefusedInOrder() {
        CHECK.asIfNotMade("code 32 as the 61st", EdgesOfTextsTest::withFullBuffer, Check.ARGUMENT,
            shop -> shop.append(32));
        CHECK.asIfNotMade("code 127 as the 61st", EdgesOfTextsTest::withFullBuffer, Check.ARGUMENT,
            shop -> shop.append(127));
    }

    // ---- promise 12

    /** "Returns the length that it had": none, one, all. */
    private static void clearBuffer() {
        CHECK.same("an empty buffer", new ForgeHeats().clearBuffer(), 0);
        CHECK.same("one character", Shops.withText("x").clearBuffer(), 1);
        ForgeHeats full = withFullBuffer();
        CHECK.same("60 characters", full.clearBuffer(), 60);
        CHECK.same("none any more", full.clearBuffer(), 0);
        CHECK.same("nothing to read", full.firstError(), 0);
        CHECK.thrown("nothing to add", Check.ARGUMENT, full::addAll);
        CHECK.same("as if nothing was ever written", full.digest(), new ForgeHeats().digest());
    }

    // ---- promise 13

    /** "the length of the buffer if there is none": of an empty one, of whole jobs, of begun ones, of a full one. */
    private static void noError() {
        noErrorIn("", "1", "1d", "1d0", "1d0h", "1d0h0", "1d0h0@", "1d0h0@1", "1d0h0@1!", "1d0h0!", "1d0h0;",
            "1d0h0!;", "1d0h0@1;", "1d0h0@1!;", TEN, TEN + "!", TEN + ";", TEN + "@", NINE + ";10d0h0");
        CHECK.same("asked again", Shops.busy().firstError(), 9);
    }

    /** "no jobs as a text, of any length": that the buffer has no more room does not matter. */
    private static void noErrorForWantOfRoom() {
        errorAt(TEN + ";", 60);
        errorAt(NINE + ";9d4h3@", 60);
        errorAt(NINE + ";40d4h3", 60);
        CHECK.thrown("but ten jobs and a begun one are not complete", Check.ARGUMENT, Shops.withText(TEN + ";")::addAll);
    }

    /** "the index of the first character that is a syntax error": the first, the last of 60, one before others. */
    private static void placeOfTheError() {
        errorAt("x", 0);
        errorAt("xxx", 0);
        errorAt("1x0x0", 1);
        errorAt("1d0h0;x;x", 6);
        errorAt(TEN + "x", 59);
        errorAt("x" + TEN, 0);
        errorAt(NINE + ";1d0h4!", 58);
    }

    /** "one or more parts with ";" between them": no empty part, at the begin, between or at the end. */
    private static void parts() {
        errorAtTheEndOf(";", "1d0h0;;", "1d0h0!;;", "1d0h0@1;;", "1d0h0,", "1d0h0:");
        noErrorIn("1d0h0;1d0h0", "1d0h0!;1d0h0", "1d0h0@1;1d0h0", "1d0h0@1!;1d0h0");
        refusedText("");
        refusedText("1d0h0;");
        refusedText("1d0h0!;");
        refusedText("1d0h0;1d0h0;");
        CHECK.same("one part", Shops.withText("1d0h0").addAll(), 1);
        CHECK.same("two parts", Shops.withText("1d0h0;1d0h0").addAll(), 2);
    }

    /** "pieces, 1 to 40, without a leading zero". */
    private static void pieces() {
        errorAtTheEndOf("0", "41", "42", "49", "50", "99", "100", "400", "401", "111", "1d0h0;0", "1d0h0;41");
        errorAtTheEndOf("d", "h", "@", "!", "-", "+", "/", ":", "1/", "1:", "1h", "1@", "1!", "1;");
        errorAt("01d0h0", 0);
        errorAt("00d0h0", 0);
        int[] right = {1, 9, 10, 19, 20, 39, 40};
        for (int pieces : right) {
            ForgeHeats shop = Shops.withText(pieces + "d0h0");
            CHECK.same("no error in " + pieces, shop.firstError(), pieces < 10 ? 5 : 6);
            CHECK.same("added", shop.addAll(), 1);
            CHECK.same("pieces", shop.jobOf(0, 3), pieces);
        }
        refusedText("1");
        refusedText("40");
    }

    /** ""d" and a die, 0 to 4". */
    private static void dies() {
        errorAtTheEndOf("1D", "1dd", "1d5", "1d9", "1d-", "1d/", "1d:", "1d;", "1d!", "1d@", "1dh", "1d00", "1d10");
        for (int die = 0; die <= 4; die++) {
            ForgeHeats shop = Shops.withText("1d" + die + "h0");
            CHECK.same("die " + die + " added", shop.addAll(), 1);
            CHECK.same("its die", shop.jobOf(0, 1), die);
        }
        refusedText("1d");
        refusedText("1d0");
    }

    /** ""h" and a heat, 0 to 3". */
    private static void heats() {
        errorAtTheEndOf("1d0H", "1d0hh", "1d0h4", "1d0h9", "1d0h/", "1d0h:", "1d0h;", "1d0h!", "1d0h@", "1d0h00",
            "1d0h10", "1d0d", "1d0;", "1d0!", "1d0@", "1d0h0d", "1d0h0h");
        for (int heat = 0; heat <= 3; heat++) {
            ForgeHeats shop = Shops.withText("1d0h" + heat);
            CHECK.same("heat " + heat + " added", shop.addAll(), 1);
            CHECK.same("its heat", shop.jobOf(0, 2), heat);
        }
        refusedText("1d0h");
    }

    /** "perhaps "@" and a due minute, 0 to 9999, without a leading zero (9999 without it)". */
    private static void dues() {
        errorAtTheEndOf("1d0h0@@", "1d0h0@!", "1d0h0@;", "1d0h0@/", "1d0h0@:", "1d0h0@x", "1d0h0@-", "1d0h0@00",
            "1d0h0@01", "1d0h0@09", "1d0h0@10000", "1d0h0@99990", "1d0h0@99999", "1d0h0@12345", "1d0h0@1/",
            "1d0h0@1:", "1d0h0@1@", "1d0h0@1d", "1d0h0;1d0h0@00");
        int[] right = {0, 1, 9, 10, 99, 100, 999, 1000, 9998, 9999};
        for (int due : right) {
            ForgeHeats shop = Shops.withText("1d0h0@" + due);
            CHECK.same("no error in " + due, shop.firstError(), 6 + String.valueOf(due).length());
            CHECK.same("added", shop.addAll(), 1);
            CHECK.same("due minute", shop.jobOf(0, 5), due);
        }
        refusedText("1d0h0@");
        ForgeHeats without = Shops.withText("1d0h0");
        without.addAll();
        CHECK.same("due minute without it", without.jobOf(0, 5), 9999);
        ForgeHeats behind = Shops.withText("1d0h0@7;1d0h0");
        behind.addAll();
        CHECK.same("also behind a part with it", behind.jobOf(1, 5), 9999);
    }

    /** "and perhaps "!" (a rush job)": once, at the end of the part. */
    private static void haste() {
        errorAtTheEndOf("1d0h0!!", "1d0h0@1!!", "1d0h0!@", "1d0h0!1", "1d0h0!d", "1d0h0@1!2", "1!", "1d!", "1d0!");
        String[] rush = {"1d0h0!", "1d0h0@5!", "1d0h0@0!", "1d0h0@9999!"};
        for (String text : rush) {
            ForgeHeats shop = Shops.withText(text);
            CHECK.same("added " + text, shop.addAll(), 1);
            CHECK.same("a rush job", shop.jobOf(0, 6), 1);
        }
        ForgeHeats behind = Shops.withText("1d0h0!;1d0h0");
        behind.addAll();
        CHECK.same("one rush job", behind.count(2), 1);
        CHECK.same("the part behind it is none", behind.jobOf(1, 6), 0);
    }

    /** Behind each begin of a text each of the 94 characters is right or wrong as the model's pattern says. */
    private static void everyCharacterEverywhere() {
        String[] begins = {
            "", "1", "3", "4", "5", "9", "10", "40", "1d", "1d0", "1d4", "1d0h", "1d0h0", "1d0h3", "1d0h0@",
            "1d0h0@0", "1d0h0@1", "1d0h0@99", "1d0h0@999", "1d0h0@1000", "1d0h0@9999", "1d0h0!", "1d0h0@1!",
            "1d0h0;", "1d0h0;4", "1d0h0;1d", "1d0h0!;", "1d0h0@1;", "1d0h0@1!;", "1d0h0;1d0h0", "x", "41",
        };
        for (String begin : begins) {
            for (int code = 33; code <= 126; code++) {
                String text = begin + (char) code;
                Model model = new Model();
                for (char each : text.toCharArray()) {
                    model.append(each);
                }
                CHECK.same("first error of " + text, Shops.withText(text).firstError(), model.firstError());
                CHECK.same("addAll of " + text, Future.answer(Shops.withText(text)::addAll).equals(1) ? 1 : 0,
                    Future.answer(model::addAll).equals(1) ? 1 : 0);
            }
        }
    }

    // ---- promise 14

    /** "Adds the jobs in the buffer, one after the other". */
    private static void oneAfterTheOther() {
        ForgeHeats shop = Shops.withText("1d0h0@9;2d1h1@9;3d2h2@8;4d3h3@9!");
        CHECK.same("four jobs then", shop.addAll(), 4);
        int[] numbers = {3, 2, 0, 1};
        for (int place = 0; place < numbers.length; place++) {
            CHECK.same("numbered as they are written", shop.jobOf(place, 0), numbers[place]);
            CHECK.same("each with its pieces", shop.jobOf(place, 3), numbers[place] + 1);
        }
        CHECK.same("the next number", shop.job(0, 0, 1, 0, false), 4);
    }

    /** "Clears the buffer": of an earlier, longer text nothing is read, neither a part nor a sign nor a digit. */
    private static void nothingOfAnEarlierText() {
        String[] earlier = {"1d0h0;1d0h0", "1d0h0!", "1d0h0@5", "9d4h3@77!;9d4h3"};
        for (String text : earlier) {
            ForgeHeats shop = Shops.withText(text);
            shop.clearBuffer();
            Shops.write(shop, "1d0h0");
            CHECK.same("one job, behind " + text, shop.addAll(), 1);
            CHECK.same("no rush job", shop.jobOf(0, 6), 0);
            CHECK.same("no due minute", shop.jobOf(0, 5), 9999);
        }
        ForgeHeats due = Shops.withText("1d0h0@77!");
        due.addAll();
        Shops.write(due, "1d0h0@7");
        CHECK.same("no error", due.firstError(), 7);
        CHECK.same("added", due.addAll(), 2);
        CHECK.same("the due minute as it is written", due.jobOf(1, 5), 7);
        CHECK.same("no rush job", due.jobOf(1, 6), 0);
    }

    /** "and clears the buffer": only if they are added. */
    private static void clearedIfAdded() {
        ForgeHeats shop = Shops.withText("1d0h0");
        shop.addAll();
        CHECK.same("an empty buffer", shop.clearBuffer(), 0);
        ForgeHeats wrong = Shops.withText("1d0h0;");
        CHECK.thrown("not complete", Check.ARGUMENT, wrong::addAll);
        CHECK.same("the text stays", wrong.append('1'), 7);
        Shops.write(wrong, "d0h0");
        CHECK.same("and can be completed", wrong.addAll(), 2);
    }

    /** "Throws IllegalStateException if there would be more than 10": ten can be, eleven not. */
    private static void atMostTenJobs() {
        CHECK.same("none and ten", Shops.withText(TEN).addAll(), 10);
        CHECK.same("one and nine", withJobs(1, NINE).addAll(), 10);
        CHECK.same("nine and one", withJobs(9, "1d0h0").addAll(), 10);
        CHECK.asIfNotMade("one and ten", () -> withJobs(1, TEN), Check.STATE, ForgeHeats::addAll);
        CHECK.asIfNotMade("two and nine", () -> withJobs(2, NINE), Check.STATE, ForgeHeats::addAll);
        CHECK.asIfNotMade("nine and two", () -> withJobs(9, "1d0h0;1d0h0"), Check.STATE, ForgeHeats::addAll);
        CHECK.asIfNotMade("ten and one", () -> withJobs(10, "1d0h0"), Check.STATE, ForgeHeats::addAll);
        CHECK.asIfNotMade("ten and ten", () -> withJobs(10, TEN), Check.STATE, ForgeHeats::addAll);
    }

    /** "all or none": none of two if one has room, and the text is there for later. */
    private static void allOrNone() {
        ForgeHeats shop = withJobs(9, "2d0h0;3d0h0");
        CHECK.thrown("nine and two", Check.STATE, shop::addAll);
        CHECK.same("none", shop.count(1), 9);
        shop.cancel(0);
        CHECK.same("all", shop.addAll(), 10);
        CHECK.same("no number was lost", shop.jobOf(9, 0), 10);
    }

    private static ForgeHeats withJobs(int jobs, String text) {
        ForgeHeats shop = new ForgeHeats();
        for (int number = 0; number < jobs; number++) {
            shop.job(0, 0, 1, 0, false);
        }
        Shops.write(shop, text);
        return shop;
    }

    /** "If several exceptions apply, the one that is named first in the throws clause is thrown." */
    private static void addAllRefusedInOrder() {
        CHECK.asIfNotMade("ten jobs and no text", Shops::withTenJobs, Check.ARGUMENT, ForgeHeats::addAll);
        CHECK.asIfNotMade("ten jobs and a begun one", () -> withJobs(10, "1d0h"), Check.ARGUMENT,
            ForgeHeats::addAll);
        CHECK.asIfNotMade("nine jobs, one and an empty part", () -> withJobs(9, "1d0h0;"), Check.ARGUMENT,
            ForgeHeats::addAll);
        CHECK.asIfNotMade("ten jobs and a wrong text", () -> withJobs(10, "1d0h0;x"), Check.ARGUMENT,
            ForgeHeats::addAll);
    }

    public static void main(String[] args) {
        codesOfAppend();
        roomOfTheBuffer();
        appendRefusedInOrder();
        clearBuffer();
        noError();
        noErrorForWantOfRoom();
        placeOfTheError();
        parts();
        pieces();
        dies();
        heats();
        dues();
        haste();
        everyCharacterEverywhere();
        oneAfterTheOther();
        nothingOfAnEarlierText();
        clearedIfAdded();
        atMostTenJobs();
        allOrNone();
        addAllRefusedInOrder();
        CHECK.end();
    }
}
