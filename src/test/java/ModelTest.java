/** Long runs of calls, each compared with what the model answers to the same calls. */
public final class ModelTest {
    private static final int RUNS = 300;
    // Behind 512 calls answers are free, and one turn of a run takes up to some sixty.
    private static final int CALLS = 440;
    private static final Check CHECK = new Check("ModelTest");
    private static final String[] PARTS = {
        "1d0h0", "40d4h3", "7d1h1@0", "12d2h2@30!", "3d3h0!", "5d0h1@9999", "2d1h3@120", "9d4h2@45!",
        "41d0h0", "0d0h0", "1d5h0", "1d0h4", "1d0h0@01", "1d0h0@10000", "1d0h0!@3", "1d0h0;", "05d1h1",
    };

    private int calls;

    // A fixed sequence of numbers that look mixed, so that every run of this test is the same.
    private long seed;

    private int next(int end) {
        seed = seed * 6364136223846793005L + 1442695040888963407L;
        return (int) Math.floorMod(seed >>> 33, (long) end);
    }

    /** Mostly within least and most, now and then just outside, so that refusals come too. */
    private int about(int least, int most) {
        int dice = next(40);
        if (dice == 0) {
            return least - 1;
        }
        if (dice == 1) {
            return most + 1;
        }
        if (dice == 2) {
            return least;
        }
        return dice == 3 ? most : least + next(most - least + 1);
    }

    private void same(String call, Future.Answer got, Future.Answer want) {
        calls++;
        Object gotten = Future.answer(got);
        Object wanted = Future.answer(want);
        CHECK.same(call + " [" + gotten + " / " + wanted + "]", gotten.equals(wanted) ? 1 : 0, 1);
    }

    private void run(int number) {
        seed = number * 7919L + 17L;
        ForgeHeats shop = new ForgeHeats();
        Model model = new Model();
        int style = number % 4;
        calls = 0;
        if (style == 2) {
            hardOnDies(shop, model);
        }
        while (calls < CALLS) {
            String at = "run " + number + " call " + calls + ": ";
            if (next(100) < 70) {
                change(at, shop, model, style);
            } else {
                look(at, shop, model);
            }
            if (next(6) == 0) {
                same(at + "digest", shop::digest, model::digest);
            }
        }
        same("run " + number + " digest", shop::digest, model::digest);
    }

    /** Much stock, cold blows and long grinding, so that several dies are worn out at once. */
    private void hardOnDies(ForgeHeats shop, Model model) {
        int[][] settings = {{0, 300}, {1, 150}, {2, 3}, {3, 12}};
        for (int[] pair : settings) {
            same("set", () -> shop.set(pair[0], pair[1]), () -> model.set(pair[0], pair[1]));
        }
        for (int number = 0; number < 5; number++) {
            int die = number;
            same("die", () -> shop.die(die, 3, 10), () -> model.die(die, 3, 10));
        }
        for (int number = 0; number < 4; number++) {
            int heat = number;
            same("stock", () -> shop.stock(heat, 99), () -> model.stock(heat, 99));
            same("range", () -> shop.range(heat, 600, 1200), () -> model.range(heat, 600, 1200));
        }
    }

    private void change(String at, ForgeHeats shop, Model model, int style) {
        int a = about(0, 3);
        int b = about(0, 4);
        int n = next(20);
        boolean flag = next(3) == 0;
        switch (next(14)) {
            case 0, 1 -> {
                int billets = style == 0 ? about(1, 5) : about(1, 99);
                same(at + "stock", () -> shop.stock(a, billets), () -> model.stock(a, billets));
            }
            case 2 -> {
                int low = style == 1 ? about(1000, 1240) : about(600, 1240);
                int high = next(8) == 0 ? about(600, 1240) : Math.min(1240, low + next(240));
                same(at + "range", () -> shop.range(a, low, high), () -> model.range(a, low, high));
            }
            case 3 -> {
                int blows = about(1, 9);
                int limit = style == 2 ? about(10, 20) : about(10, 300);
                same(at + "die", () -> shop.die(b, blows, limit), () -> model.die(b, blows, limit));
            }
            case 4 -> same(at + "grind", () -> shop.grind(b), () -> model.grind(b));
            case 5, 6 -> {
                int pieces = style == 3 ? about(1, 4) : about(1, 40);
                int due = next(3) == 0 ? about(0, 9999) : about(0, 300);
                same(at + "job", () -> shop.job(b, a, pieces, due, flag),
                    () -> model.job(b, a, pieces, due, flag));
            }
            case 7 -> {
                int job = someJob(model);
                if (next(3) == 0) {
                    same(at + "cancel", () -> shop.cancel(job), () -> model.cancel(job));
                } else {
                    same(at + "rush", () -> shop.rush(job, flag), () -> model.rush(job, flag));
                }
            }
            case 8 -> {
                int[] most = {300, 200, 3, 30};
                int value = a < 0 || a > 3 ? n : about(a == 0 ? 10 : a == 2 ? 0 : 1, most[a]);
                same(at + "set", () -> shop.set(a, value), () -> model.set(a, value));
            }
            case 9 -> {
                if (next(2) == 0) {
                    same(at + "undo", shop::undo, model::undo);
                }
            }
            case 10 -> text(at, shop, model);
            default -> {
                int minutes = next(4) == 0 ? about(1, 120) : 1 + n;
                same(at + "pass", () -> shop.pass(minutes), () -> model.pass(minutes));
            }
        }
    }

    private void text(String at, ForgeHeats shop, Model model) {
        int parts = 1 + next(3);
        for (int part = 0; part < parts; part++) {
            String piece = PARTS[next(next(2) == 0 ? 8 : PARTS.length)] + (part + 1 < parts ? ";" : "");
            for (int index = 0; index < piece.length(); index++) {
                int code = piece.charAt(index);
                same(at + "append", () -> shop.append(code), () -> model.append(code));
            }
        }
        int code = about(33, 126);
        if (next(4) == 0) {
            same(at + "append", () -> shop.append(code), () -> model.append(code));
        }
        same(at + "firstError", shop::firstError, model::firstError);
        if (next(4) == 0) {
            same(at + "digest", shop::digest, model::digest);
        }
        same(at + "addAll", shop::addAll, model::addAll);
        if (next(4) > 0) {
            same(at + "clearBuffer", shop::clearBuffer, model::clearBuffer);
        }
    }

    private int someJob(Model model) {
        int jobs = model.count(1);
        return jobs == 0 || next(12) == 0 ? next(12) - 1 : model.jobOf(next(jobs), 0);
    }

    private void look(String at, ForgeHeats shop, Model model) {
        int a = about(0, 3);
        int b = about(0, 4);
        int what = about(0, 6);
        int place = about(0, 9);
        int minutes = about(1, 240);
        int job = someJob(model);
        switch (next(11)) {
            case 0 -> same(at + "heat", () -> shop.heat(a, what), () -> model.heat(a, what));
            case 1 -> same(at + "dieOf", () -> shop.dieOf(b, what), () -> model.dieOf(b, what));
            case 2, 3 -> same(at + "jobOf", () -> shop.jobOf(place, what + 1),
                () -> model.jobOf(place, what + 1));
            case 4 -> same(at + "billet", () -> shop.billet(what, a), () -> model.billet(what, a));
            case 5 -> same(at + "count", () -> shop.count(what + place), () -> model.count(what + place));
            case 6 -> same(at + "setting", () -> shop.setting(a), () -> model.setting(a));
            case 7 -> same(at + "ifPassed", () -> shop.ifPassed(minutes, b),
                () -> model.ifPassed(minutes, b));
            case 8 -> same(at + "doneIn", () -> shop.doneIn(job), () -> model.doneIn(job));
            case 9 -> same(at + "ifRush", () -> shop.ifRush(job), () -> model.ifRush(job));
            default -> {
                int few = about(1, 120);
                same(at + "bestReheats", () -> shop.bestReheats(few), () -> model.bestReheats(few));
                calls++;
                CHECK.same(at + "saved", shop.saved(), model.saved());
            }
        }
    }

    public static void main(String[] args) {
        ModelTest test = new ModelTest();
        for (int number = 0; number < RUNS; number++) {
            test.run(number);
        }
        CHECK.end();
    }
}
