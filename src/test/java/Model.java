import java.util.ArrayDeque;
import java.util.ArrayList;
import java.util.Comparator;
import java.util.Deque;
import java.util.List;
import java.util.function.IntPredicate;
import java.util.regex.Matcher;
import java.util.regex.Pattern;

/**
 * A second reading of ../shared/DOC.md, by other means than the program's: everything that can be
 * counted is counted when asked, the order is sorted each time, states are copied whole, and the
 * texts are read by a pattern. Calls that are to be refused throw as the document says.
 */
final class Model {
    private static final Pattern JOBS;

    static {
        String part = "([1-9]|[1-3][0-9]|40)d[0-4]h[0-3](@(0|[1-9][0-9]{0,3}))?!?";
        JOBS = Pattern.compile(part + "(;" + part + ")*");
    }

    private static final class Job {
        int number;
        int die;
        int heat;
        int pieces;
        int made;
        int due;
        boolean isRush;
    }

    private static final class Billet {
        int job;
        int heat;
        int degrees;
        int reheats;
        int blows;
    }

    private static final class State {
        int[] stock = new int[4];
        int[] low = {900, 900, 900, 900};
        int[] high = {1100, 1100, 1100, 1100};
        int[] madeOfHeat = new int[4];
        int[] scrapOfHeat = new int[4];
        int[] blowsOfDie = {3, 3, 3, 3, 3};
        int[] limit = {60, 60, 60, 60, 60};
        int[] wear = new int[5];
        int[] madeWithDie = new int[5];
        int[] timesGround = new int[5];
        int ground = -1;
        int groundFor;
        int[] settings = {150, 40, 1, 5};
        List<Job> jobs = new ArrayList<>();
        Billet[] furnace = new Billet[6];
        Billet press;
        int came;
        int minutes;
        int blows;
        int gone;
        int late;
        int lateMinutes;

        State copy() {
            State copy = new State();
            copy.stock = stock.clone();
            copy.low = low.clone();
            copy.high = high.clone();
            copy.madeOfHeat = madeOfHeat.clone();
            copy.scrapOfHeat = scrapOfHeat.clone();
            copy.blowsOfDie = blowsOfDie.clone();
            copy.limit = limit.clone();
            copy.wear = wear.clone();
            copy.madeWithDie = madeWithDie.clone();
            copy.timesGround = timesGround.clone();
            copy.ground = ground;
            copy.groundFor = groundFor;
            copy.settings = settings.clone();
            for (Job job : jobs) {
                copy.jobs.add(copyOf(job));
            }
            for (int place = 0; place < 6; place++) {
                copy.furnace[place] = copyOf(furnace[place]);
            }
            copy.press = copyOf(press);
            copy.came = came;
            copy.minutes = minutes;
            copy.blows = blows;
            copy.gone = gone;
            copy.late = late;
            copy.lateMinutes = lateMinutes;
            return copy;
        }

        private static Job copyOf(Job job) {
            Job copy = new Job();
            copy.number = job.number;
            copy.die = job.die;
            copy.heat = job.heat;
            copy.pieces = job.pieces;
            copy.made = job.made;
            copy.due = job.due;
            copy.isRush = job.isRush;
            return copy;
        }

        private static Billet copyOf(Billet billet) {
            if (billet == null) {
                return null;
            }
            Billet copy = new Billet();
            copy.job = billet.job;
            copy.heat = billet.heat;
            copy.degrees = billet.degrees;
            copy.reheats = billet.reheats;
            copy.blows = billet.blows;
            return copy;
        }

        List<Job> order() {
            List<Job> order = new ArrayList<>(jobs);
            order.sort(Comparator.comparing((Job job) -> !job.isRush)
                .thenComparing(job -> job.due).thenComparing(job -> job.number));
            return order;
        }

        Job find(int number) {
            for (Job job : jobs) {
                if (job.number == number) {
                    return job;
                }
            }
            return null;
        }

        List<Billet> billets() {
            List<Billet> all = new ArrayList<>();
            for (Billet billet : furnace) {
                if (billet != null) {
                    all.add(billet);
                }
            }
            if (press != null) {
                all.add(press);
            }
            return all;
        }

        int lack(Job job) {
            long there = billets().stream().filter(billet -> billet.job == job.number).count();
            return job.pieces - job.made - (int) there;
        }

        boolean isWorn(int die) {
            return wear[die] >= limit[die];
        }

        boolean isReady(Job job, Billet billet) {
            return billet != null && billet.job == job.number && billet.degrees >= high[job.heat];
        }

        int firstFree() {
            for (int place = 0; place < 6; place++) {
                if (furnace[place] == null) {
                    return place;
                }
            }
            return -1;
        }

        void minute() {
            minutes++;
            for (Billet billet : furnace) {
                if (billet != null) {
                    billet.degrees += settings[0];
                    if (billet.degrees > 1250) {
                        billet.degrees = 1250;
                    }
                }
            }
            charge();
            if (press != null) {
                press();
            } else {
                load();
            }
            dies();
        }

        private void charge() {
            if (firstFree() < 0) {
                return;
            }
            for (Job job : order()) {
                if (lack(job) > 0 && stock[job.heat] > 0) {
                    stock[job.heat]--;
                    Billet billet = new Billet();
                    billet.job = job.number;
                    billet.heat = job.heat;
                    billet.degrees = 20;
                    billet.blows = blowsOfDie[job.die];
                    furnace[firstFree()] = billet;
                    break;
                }
            }
        }

        private void load() {
            for (Job job : order()) {
                int best = -1;
                for (int place = 5; place >= 0; place--) {
                    if (isReady(job, furnace[place])
                            && (best < 0 || furnace[place].degrees >= furnace[best].degrees)) {
                        best = place;
                    }
                }
                if (best >= 0 && !isWorn(job.die) && ground != job.die) {
                    press = furnace[best];
                    furnace[best] = null;
                    break;
                }
            }
        }

        private void press() {
            Job job = find(press.job);
            int colder = high[job.heat] - press.degrees;
            if (isWorn(job.die) || ground == job.die || press.degrees < low[job.heat]) {
                press.reheats++;
                if (press.reheats > settings[2] || firstFree() < 0) {
                    scrapOfHeat[job.heat]++;
                } else {
                    furnace[firstFree()] = press;
                }
                press = null;
                return;
            }
            blows++;
            wear[job.die]++;
            if (colder > 0) {
                wear[job.die] += colder / 100;
            }
            press.degrees = Math.max(20, press.degrees - settings[1]);
            press.blows--;
            if (press.blows == 0) {
                press = null;
                finish(job);
            }
        }

        private void finish(Job job) {
            job.made++;
            madeOfHeat[job.heat]++;
            madeWithDie[job.die]++;
            if (job.made == job.pieces) {
                jobs.remove(job);
                gone++;
                if (minutes > job.due) {
                    late++;
                    lateMinutes += minutes - job.due;
                }
            }
        }

        private void dies() {
            if (ground >= 0) {
                groundFor--;
                if (groundFor == 0) {
                    wear[ground] = 0;
                    limit[ground] = Math.max(10, limit[ground] - 5);
                    timesGround[ground]++;
                    ground = -1;
                }
            }
            for (int die = 0; die < 5 && ground < 0; die++) {
                if (isWorn(die)) {
                    ground = die;
                    groundFor = settings[3];
                }
            }
        }

        int made() {
            return sum(madeOfHeat);
        }

        int scrap() {
            return sum(scrapOfHeat);
        }

        private static int sum(int[] values) {
            int sum = 0;
            for (int value : values) {
                sum += value;
            }
            return sum;
        }
    }

    private State now = new State();
    private final Deque<State> past = new ArrayDeque<>();
    private final StringBuilder buffer = new StringBuilder();

    private void save() {
        past.addLast(now.copy());
        if (past.size() > 6) {
            past.removeFirst();
        }
    }

    private static void needPlace(int value, int end) {
        if (value < 0 || value >= end) {
            throw new IndexOutOfBoundsException();
        }
    }

    private static void need(boolean holds) {
        if (!holds) {
            throw new IllegalArgumentException();
        }
    }

    private static void needState(boolean holds) {
        if (!holds) {
            throw new IllegalStateException();
        }
    }

    private Job needJob(int number) {
        Job job = now.find(number);
        if (job == null) {
            throw new IndexOutOfBoundsException();
        }
        return job;
    }

    int stock(int heat, int billets) {
        needPlace(heat, 4);
        need(billets >= 1 && billets <= 99);
        needState(now.stock[heat] + billets <= 200);
        save();
        return now.stock[heat] += billets;
    }

    int range(int heat, int low, int high) {
        needPlace(heat, 4);
        need(600 <= low && low <= high && high <= 1240);
        save();
        int previous = now.low[heat] * 10000 + now.high[heat];
        now.low[heat] = low;
        now.high[heat] = high;
        return previous;
    }

    int die(int die, int blows, int limit) {
        needPlace(die, 5);
        need(blows >= 1 && blows <= 9 && limit >= 10 && limit <= 300);
        needState(now.ground != die);
        save();
        int previous = now.wear[die];
        now.blowsOfDie[die] = blows;
        now.limit[die] = limit;
        now.wear[die] = 0;
        return previous;
    }

    int grind(int die) {
        needPlace(die, 5);
        needState(now.ground < 0);
        save();
        now.ground = die;
        now.groundFor = now.settings[3];
        return now.wear[die];
    }

    int job(int die, int heat, int pieces, int due, boolean isRush) {
        needPlace(die, 5);
        needPlace(heat, 4);
        need(pieces >= 1 && pieces <= 40 && due >= 0 && due <= 9999);
        needState(now.jobs.size() < 10);
        save();
        return add(die, heat, pieces, due, isRush);
    }

    private int add(int die, int heat, int pieces, int due, boolean isRush) {
        Job job = new Job();
        job.number = now.came++;
        job.die = die;
        job.heat = heat;
        job.pieces = pieces;
        job.due = due;
        job.isRush = isRush;
        now.jobs.add(job);
        return job.number;
    }

    int cancel(int number) {
        Job job = needJob(number);
        save();
        job = now.find(number);
        int scrap = 0;
        for (int place = 0; place < 6; place++) {
            if (now.furnace[place] != null && now.furnace[place].job == number) {
                now.furnace[place] = null;
                scrap++;
            }
        }
        if (now.press != null && now.press.job == number) {
            now.press = null;
            scrap++;
        }
        now.scrapOfHeat[job.heat] += scrap;
        now.jobs.remove(job);
        return scrap;
    }

    int rush(int number, boolean isRush) {
        Job job = needJob(number);
        save();
        job.isRush = isRush;
        return now.order().indexOf(job);
    }

    int set(int setting, int value) {
        needPlace(setting, 4);
        int[] least = {10, 1, 0, 1};
        int[] most = {300, 200, 3, 30};
        need(value >= least[setting] && value <= most[setting]);
        save();
        int previous = now.settings[setting];
        now.settings[setting] = value;
        return previous;
    }

    int pass(int minutes) {
        need(minutes >= 1 && minutes <= 120);
        needState(now.minutes + minutes <= 9999);
        save();
        int before = now.made();
        for (int minute = 0; minute < minutes; minute++) {
            now.minute();
        }
        return now.made() - before;
    }

    int append(int code) {
        need(code >= 33 && code <= 126);
        needState(buffer.length() < 60);
        return buffer.append((char) code).length();
    }

    int clearBuffer() {
        int length = buffer.length();
        buffer.setLength(0);
        return length;
    }

    int firstError() {
        for (int end = 1; end <= buffer.length(); end++) {
            Matcher matcher = JOBS.matcher(buffer.substring(0, end));
            // A text that is not jobs yet, but whose reading came to its end, can become jobs.
            if (!matcher.matches() && !matcher.hitEnd()) {
                return end - 1;
            }
        }
        return buffer.length();
    }

    int addAll() {
        need(JOBS.matcher(buffer).matches());
        String[] parts = buffer.toString().split(";");
        needState(now.jobs.size() + parts.length <= 10);
        save();
        for (String part : parts) {
            int d = part.indexOf('d');
            int at = part.indexOf('@');
            String bare = part.replace("!", "");
            int due = at < 0 ? 9999 : Integer.parseInt(bare.substring(at + 1));
            add(part.charAt(d + 1) - '0', part.charAt(d + 3) - '0',
                Integer.parseInt(part.substring(0, d)), due, part.endsWith("!"));
        }
        buffer.setLength(0);
        return now.jobs.size();
    }

    int undo() {
        needState(!past.isEmpty());
        now = past.removeLast();
        return past.size();
    }

    int heat(int heat, int what) {
        needPlace(heat, 4);
        need(what >= 0 && what <= 6);
        int[] simple = {now.stock[heat], now.low[heat], now.high[heat], 0, now.madeOfHeat[heat],
            now.scrapOfHeat[heat], 0};
        if (what == 3) {
            return (int) now.billets().stream().filter(billet -> billet.heat == heat).count();
        }
        if (what == 6) {
            return now.jobs.stream().filter(job -> job.heat == heat).mapToInt(now::lack).sum();
        }
        return simple[what];
    }

    int dieOf(int die, int what) {
        needPlace(die, 5);
        need(what >= 0 && what <= 5);
        int[] all = {now.blowsOfDie[die], now.limit[die], now.wear[die],
            now.ground == die ? now.groundFor : 0, now.madeWithDie[die], now.timesGround[die]};
        return all[what];
    }

    int jobOf(int place, int what) {
        need(place >= 0 && what >= 0 && what <= 7);
        if (place >= now.jobs.size()) {
            return -1;
        }
        Job job = now.order().get(place);
        int[] all = {job.number, job.die, job.heat, job.pieces, job.made, job.due,
            job.isRush ? 1 : 0, whyItWaits(job)};
        return all[what];
    }

    private int whyItWaits(Job job) {
        IntPredicate ofFurnace = place -> now.furnace[place] != null
            && now.furnace[place].job == job.number;
        boolean[] reasons = new boolean[7];
        reasons[0] = now.press != null && now.press.job == job.number;
        reasons[1] = now.ground == job.die;
        reasons[2] = now.isWorn(job.die);
        reasons[3] = now.stock[job.heat] == 0;
        reasons[4] = true;
        for (int place = 0; place < 6; place++) {
            reasons[3] &= !ofFurnace.test(place);
            reasons[4] &= !now.isReady(job, now.furnace[place]);
        }
        reasons[5] = now.press != null;
        reasons[6] = true;
        int first = 0;
        while (!reasons[first]) {
            first++;
        }
        return first;
    }

    int billet(int place, int what) {
        needPlace(place, 7);
        need(what >= 0 && what <= 3);
        Billet billet = place == 6 ? now.press : now.furnace[place];
        if (billet == null) {
            return -1;
        }
        int[] all = {billet.job, billet.degrees, billet.reheats, billet.blows};
        return all[what];
    }

    int count(int what) {
        need(what >= 0 && what <= 11);
        int inFurnace = now.billets().size() - (now.press == null ? 0 : 1);
        int rushJobs = (int) now.jobs.stream().filter(job -> job.isRush).count();
        int[] all = {now.minutes, now.jobs.size(), rushJobs, inFurnace, now.made(), now.scrap(),
            now.blows, now.gone, now.late, now.lateMinutes, now.ground, past.size()};
        return all[what];
    }

    int setting(int setting) {
        needPlace(setting, 4);
        return now.settings[setting];
    }

    int ifPassed(int minutes, int what) {
        need(minutes >= 1 && minutes <= 240 && what >= 0 && what <= 4);
        State then = now.copy();
        for (int minute = 0; minute < minutes; minute++) {
            then.minute();
        }
        int[] all = {then.made() - now.made(), then.scrap() - now.scrap(), then.jobs.size(),
            then.lateMinutes - now.lateMinutes, then.blows - now.blows};
        return all[what];
    }

    int doneIn(int number) {
        needJob(number);
        return behind(now.copy(), number);
    }

    private static int behind(State state, int number) {
        for (int minute = 1; minute <= 240; minute++) {
            state.minute();
            if (state.find(number) == null) {
                return minute;
            }
        }
        return -1;
    }

    int ifRush(int number) {
        needJob(number);
        State hasty = now.copy();
        hasty.find(number).isRush = true;
        int asItIs = behind(now.copy(), number);
        int asRush = behind(hasty, number);
        if (asItIs > 0 && asRush > 0) {
            return asItIs - asRush;
        }
        return asItIs > 0 ? -999 : asRush > 0 ? 999 : 0;
    }

    int bestReheats(int minutes) {
        need(minutes >= 1 && minutes <= 120);
        int best = -1;
        int[] found = null;
        for (int reheats = 3; reheats >= 0; reheats--) {
            State then = now.copy();
            then.settings[2] = reheats;
            for (int minute = 0; minute < minutes; minute++) {
                then.minute();
            }
            int[] result = {then.made(), then.scrap()};
            if (found == null || result[0] > found[0]
                    || result[0] == found[0] && result[1] <= found[1]) {
                best = reheats;
                found = result;
            }
        }
        return best;
    }

    double saved() {
        int made = now.made();
        int scrap = now.scrap();
        return made + scrap == 0 ? 1.0 : (double) made / (made + scrap);
    }

    long digest() {
        List<Long> values = new ArrayList<>();
        for (int what = 0; what <= 11; what++) {
            values.add((long) count(what));
        }
        for (int setting = 0; setting < 4; setting++) {
            values.add((long) setting(setting));
        }
        for (int heat = 0; heat < 4; heat++) {
            for (int what = 0; what <= 6; what++) {
                values.add((long) heat(heat, what));
            }
        }
        for (int die = 0; die < 5; die++) {
            for (int what = 0; what <= 5; what++) {
                values.add((long) dieOf(die, what));
            }
        }
        for (int place = 0; place <= 6; place++) {
            for (int what = 0; what <= 3; what++) {
                values.add((long) billet(place, what));
            }
        }
        for (int place = 0; place < now.jobs.size(); place++) {
            for (int what = 0; what <= 7; what++) {
                values.add((long) jobOf(place, what));
            }
            values.add((long) doneIn(jobOf(place, 0)));
            values.add((long) ifRush(jobOf(place, 0)));
        }
        for (int what = 0; what <= 4; what++) {
            values.add((long) ifPassed(30, what));
        }
        values.add((long) bestReheats(40));
        values.add(Double.doubleToLongBits(saved()));
        values.add((long) buffer.length());
        buffer.chars().forEach(code -> values.add((long) code));
        long hash = 2857;
        for (long value : values) {
            hash = 31 * hash + value;
        }
        return hash;
    }
}
