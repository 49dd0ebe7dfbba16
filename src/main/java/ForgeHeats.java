/**
 * A forge shop with billets by heat, dies that wear, and rush jobs.
 * The promises that its calls keep stand in ../shared/DOC.md.
 */
public final class ForgeHeats {
    /** There is nothing to return. */
    public static final int NONE = -1;

    private static final int HEATS = 4;
    private static final int MOST_ADDED = 99;
    private static final int MOST_STOCK = 200;
    private static final int LEAST_DEGREES = 600;
    private static final int MOST_DEGREES = 1240;
    private static final int LOW_FACTOR = 10000;

    private static final int DIES = 5;
    private static final int MOST_BLOWS = 9;
    private static final int LEAST_LIMIT = 10;
    private static final int MOST_LIMIT = 300;
    private static final int LIMIT_LOSS = 5;

    private static final int MOST_JOBS = 10;
    private static final int MOST_PIECES = 40;
    private static final int LAST_DUE = 9999;

    private static final int FURNACE_PLACES = 6;
    private static final int PRESS = 6;
    private static final int COLDEST = 20;
    private static final int HOTTEST = 1250;
    private static final int DEGREES_A_WEAR = 100;

    private static final int WARMING = 0;
    private static final int COOLING = 1;
    private static final int REHEATS = 2;
    private static final int GRINDING = 3;
    private static final int MOST_REHEATS = 3;

    private static final int LAST_MINUTE = 9999;
    private static final int LONGEST_PASS = 120;
    private static final int LONGEST_LOOK = 240;
    private static final int ONLY_AS_RUSH = 999;
    private static final int MOST_SAVED = 6;
    private static final int FIRST_CODE = 33;
    private static final int LAST_CODE = 126;

    // How many properties the document numbers, from 0, for each kind of thing.
    private static final int SETTINGS = 4;
    private static final int OF_A_HEAT = 7;
    private static final int OF_A_DIE = 6;
    private static final int OF_A_JOB = 8;
    private static final int OF_A_BILLET = 4;
    private static final int COUNTS = 12;
    private static final int FORESEEN = 5;

    private final Shop shop;
    private final Shop trial;
    private final Shop[] past;
    private int pastStates;
    private final JobText text;

    /** Creates a shop without stock and jobs, with an empty buffer. */
    public ForgeHeats() {
        shop = new Shop();
        trial = new Shop();
        past = new Shop[MOST_SAVED];
        for (int index = 0; index < past.length; index++) {
            past[index] = new Shop();
        }
        text = new JobText();
    }

    // ---- heats, dies

    /** Adds billets to the stock of a heat; returns the stock then. */
    public int stock(int heat, int billets)
            throws IndexOutOfBoundsException, IllegalArgumentException, IllegalStateException {
        if (!isWithin(heat, 0, HEATS - 1)) {
            throw new IndexOutOfBoundsException("no such heat");
        }
        if (!isWithin(billets, 1, MOST_ADDED)) {
            throw new IllegalArgumentException("billets out of range");
        }
        Heat changed = shop.heatAt(heat);
        if (changed.stock + billets > MOST_STOCK) {
            throw new IllegalStateException("too much stock");
        }
        remember();
        changed.stock += billets;
        return changed.stock;
    }

    /** Changes the temperatures of a heat; returns the previous ones. */
    public int range(int heat, int low, int high)
            throws IndexOutOfBoundsException, IllegalArgumentException {
        if (!isWithin(heat, 0, HEATS - 1)) {
            throw new IndexOutOfBoundsException("no such heat");
        }
        if (!isWithin(low, LEAST_DEGREES, MOST_DEGREES) || !isWithin(high, low, MOST_DEGREES)) {
            throw new IllegalArgumentException("temperature out of range");
        }
        remember();
        Heat changed = shop.heatAt(heat);
        int previous = LOW_FACTOR * changed.low + changed.high;
        changed.low = low;
        changed.high = high;
        return previous;
    }

    /** Changes a die, which is without wear then; returns its previous wear. */
    public int die(int die, int blows, int limit)
            throws IndexOutOfBoundsException, IllegalArgumentException, IllegalStateException {
        if (!isWithin(die, 0, DIES - 1)) {
            throw new IndexOutOfBoundsException("no such die");
        }
        if (!isWithin(blows, 1, MOST_BLOWS) || !isWithin(limit, LEAST_LIMIT, MOST_LIMIT)) {
            throw new IllegalArgumentException("blows or limit out of range");
        }
        Die changed = shop.dieAt(die);
        if (changed.isBeingGround()) {
            throw new IllegalStateException("the die is being ground");
        }
        remember();
        int previous = changed.wear;
        changed.blows = blows;
        changed.limit = limit;
        changed.wear = 0;
        return previous;
    }

    /** Begins to grind a die; returns its wear. */
    public int grind(int die) throws IndexOutOfBoundsException, IllegalStateException {
        if (!isWithin(die, 0, DIES - 1)) {
            throw new IndexOutOfBoundsException("no such die");
        }
        if (shop.dieBeingGround() != NONE) {
            throw new IllegalStateException("a die is being ground");
        }
        remember();
        Die changed = shop.dieAt(die);
        changed.toGo = shop.grinding;
        return changed.wear;
    }

    // ---- jobs

    /** Adds a job; returns its number. */
    public int job(int die, int heat, int pieces, int due, boolean isRush)
            throws IndexOutOfBoundsException, IllegalArgumentException, IllegalStateException {
        if (!isWithin(die, 0, DIES - 1) || !isWithin(heat, 0, HEATS - 1)) {
            throw new IndexOutOfBoundsException("no such die or heat");
        }
        if (!isWithin(pieces, 1, MOST_PIECES) || !isWithin(due, 0, LAST_DUE)) {
            throw new IllegalArgumentException("pieces or due out of range");
        }
        if (shop.jobCount >= MOST_JOBS) {
            throw new IllegalStateException("too many jobs");
        }
        remember();
        return shop.addJob(die, heat, pieces, due, isRush);
    }

    /** Cancels a job; returns how many billets become scrap. */
    public int cancel(int number) throws IndexOutOfBoundsException {
        int place = shop.placeOf(number);
        if (place == NONE) {
            throw new IndexOutOfBoundsException("no such job");
        }
        remember();
        return shop.dropJob(place);
    }

    /** Makes a job a rush job, or none; returns its place in the order then. */
    public int rush(int number, boolean isRush) throws IndexOutOfBoundsException {
        int place = shop.placeOf(number);
        if (place == NONE) {
            throw new IndexOutOfBoundsException("no such job");
        }
        remember();
        return shop.hasten(place, isRush);
    }

    /** Changes a setting; returns the previous value. */
    public int set(int setting, int value) throws IndexOutOfBoundsException, IllegalArgumentException {
        if (!isWithin(setting, 0, SETTINGS - 1)) {
            throw new IndexOutOfBoundsException("no such setting");
        }
        if (!isWithin(value, leastValue(setting), mostValue(setting))) {
            throw new IllegalArgumentException("value out of range");
        }
        remember();
        int previous = shop.valueOf(setting);
        shop.putValue(setting, value);
        return previous;
    }

    /** Lets minutes pass; returns how many pieces are made in them. */
    public int pass(int minutes) throws IllegalArgumentException, IllegalStateException {
        if (!isWithin(minutes, 1, LONGEST_PASS)) {
            throw new IllegalArgumentException("minutes out of range");
        }
        if (shop.minutes + minutes > LAST_MINUTE) {
            throw new IllegalStateException("too many minutes");
        }
        remember();
        int before = shop.countMade();
        shop.passMinutes(minutes);
        return shop.countMade() - before;
    }

    // ---- texts

    /** Appends a character to the buffer; returns its new length. */
    public int append(int code) throws IllegalArgumentException, IllegalStateException {
        if (!isWithin(code, FIRST_CODE, LAST_CODE)) {
            throw new IllegalArgumentException("no such character");
        }
        if (text.isFull()) {
            throw new IllegalStateException("the buffer is full");
        }
        return text.put(code);
    }

    /** Clears the buffer; returns the length that it had. */
    public int clearBuffer() {
        return text.empty();
    }

    /** Returns the index of the first syntax error, or the length of the buffer. */
    public int firstError() {
        return text.firstWrong();
    }

    /** Adds the jobs in the buffer, all or none; returns how many jobs there are then. */
    public int addAll() throws IllegalArgumentException, IllegalStateException {
        if (!text.isComplete()) {
            throw new IllegalArgumentException("no jobs as a text");
        }
        int parts = text.countParts();
        if (shop.jobCount + parts > MOST_JOBS) {
            throw new IllegalStateException("too many jobs");
        }
        remember();
        text.begin();
        for (int part = 0; part < parts; part++) {
            text.readPart();
            shop.addJob(text.die, text.heat, text.pieces, text.due, text.isRush);
        }
        text.empty();
        return shop.jobCount;
    }

    /** Restores the latest saved state; returns how many are left. */
    public int undo() throws IllegalStateException {
        Shop latest = pastAt(pastStates - 1);
        if (latest == null) {
            throw new IllegalStateException("no saved state");
        }
        shop.copyFrom(latest);
        pastStates--;
        return pastStates;
    }

    // ---- looks; nothing is changed

    /** Returns a property of a heat. */
    public int heat(int heat, int what) throws IndexOutOfBoundsException, IllegalArgumentException {
        if (!isWithin(heat, 0, HEATS - 1)) {
            throw new IndexOutOfBoundsException("no such heat");
        }
        if (!isWithin(what, 0, OF_A_HEAT - 1)) {
            throw new IllegalArgumentException("no such property");
        }
        return shop.heatProperty(heat, what);
    }

    /** Returns a property of a die. */
    public int dieOf(int die, int what) throws IndexOutOfBoundsException, IllegalArgumentException {
        if (!isWithin(die, 0, DIES - 1)) {
            throw new IndexOutOfBoundsException("no such die");
        }
        if (!isWithin(what, 0, OF_A_DIE - 1)) {
            throw new IllegalArgumentException("no such property");
        }
        return shop.dieAt(die).property(what);
    }

    /** Returns a property of the job at a place in the order, NONE if there is none. */
    public int jobOf(int place, int what) throws IllegalArgumentException {
        if (place < 0 || !isWithin(what, 0, OF_A_JOB - 1)) {
            throw new IllegalArgumentException("no such place or property");
        }
        return place < shop.jobCount ? shop.jobProperty(place, what) : NONE;
    }

    /** Returns a property of the billet at a place, NONE if there is none. */
    public int billet(int place, int what) throws IndexOutOfBoundsException, IllegalArgumentException {
        if (!isWithin(place, 0, PRESS)) {
            throw new IndexOutOfBoundsException("no such place");
        }
        if (!isWithin(what, 0, OF_A_BILLET - 1)) {
            throw new IllegalArgumentException("no such property");
        }
        return shop.billetAt(place).property(what);
    }

    /** Returns a number of the whole shop. */
    public int count(int what) throws IllegalArgumentException {
        if (!isWithin(what, 0, COUNTS - 1)) {
            throw new IllegalArgumentException("no such number");
        }
        return numberOf(what);
    }

    /** Returns a setting. */
    public int setting(int setting) throws IndexOutOfBoundsException {
        if (!isWithin(setting, 0, SETTINGS - 1)) {
            throw new IndexOutOfBoundsException("no such setting");
        }
        return shop.valueOf(setting);
    }

    // ---- what would be; nothing is changed

    /** Tells what minutes would bring. */
    public int ifPassed(int minutes, int what) throws IllegalArgumentException {
        if (!isWithin(minutes, 1, LONGEST_LOOK) || !isWithin(what, 0, FORESEEN - 1)) {
            throw new IllegalArgumentException("minutes or what out of range");
        }
        foresee(minutes);
        return foreseen(what);
    }

    /** Tells behind how many minutes a job would be gone. */
    public int doneIn(int number) throws IndexOutOfBoundsException {
        if (shop.placeOf(number) == NONE) {
            throw new IndexOutOfBoundsException("no such job");
        }
        return goneBehind(number);
    }

    /** Tells by how many minutes a job would be gone earlier as a rush job. */
    public int ifRush(int number) throws IndexOutOfBoundsException {
        if (shop.placeOf(number) == NONE) {
            throw new IndexOutOfBoundsException("no such job");
        }
        return gainByHaste(number, goneBehind(number));
    }

    /** Finds the number of reheats with most pieces, then least scrap. */
    public int bestReheats(int minutes) throws IllegalArgumentException {
        if (!isWithin(minutes, 1, LONGEST_PASS)) {
            throw new IllegalArgumentException("minutes out of range");
        }
        return bestNumberOfReheats(minutes);
    }

    /** Returns the share of pieces among pieces and scrap. */
    public double saved() {
        return shareMade();
    }

    /** Computes a hash of the whole state. */
    public long digest() {
        long hash = 2857L;
        for (int what = 0; what < COUNTS; what++) {
            hash = mix(hash, numberOf(what));
        }
        hash = mixEquipment(hash);
        hash = mixJobs(hash);
        foresee(30);
        for (int what = 0; what < FORESEEN; what++) {
            hash = mix(hash, foreseen(what));
        }
        hash = mix(hash, bestNumberOfReheats(40));
        hash = mix(hash, bitsOf(shareMade()));
        hash = mix(hash, text.length);
        for (int index = 0; index < text.length; index++) {
            hash = mix(hash, text.codeAt(index));
        }
        return hash;
    }

    // ---- behind the face

    private static boolean isWithin(int value, int least, int most) {
        return value >= least && value <= most;
    }

    private static int leastValue(int setting) {
        switch (setting) {
            case WARMING:
                return 10;
            case REHEATS:
                return 0;
            default:
                return 1;
        }
    }

    private static int mostValue(int setting) {
        switch (setting) {
            case WARMING:
                return 300;
            case COOLING:
                return 200;
            case REHEATS:
                return MOST_REHEATS;
            default:
                return 30;
        }
    }

    private void remember() {
        if (pastStates >= past.length) {
            dropOldest();
        }
        Shop next = pastAt(pastStates);
        if (next != null) {
            next.copyFrom(shop);
            pastStates++;
        }
    }

    private void dropOldest() {
        Shop oldest = pastAt(0);
        int last = past.length - 1;
        for (int index = 0; index < last; index++) {
            past[index] = past[index + 1];
        }
        if (last >= 0) {
            // The oldest state's room is used again for the state that is saved next.
            past[last] = oldest;
            pastStates = last;
        }
    }

    private Shop pastAt(int index) {
        return index >= 0 && index < past.length ? past[index] : null;
    }

    private int numberOf(int what) {
        switch (what) {
            case 0:
                return shop.minutes;
            case 1:
                return shop.jobCount;
            case 2:
                return shop.countRushJobs();
            case 3:
                return shop.countInFurnace();
            case 4:
                return shop.countMade();
            case 5:
                return shop.countScrap();
            case 6:
                return shop.blows;
            case 7:
                return shop.goneJobs;
            case 8:
                return shop.lateJobs;
            case 9:
                return shop.lateMinutes;
            case 10:
                return shop.dieBeingGround();
            default:
                return pastStates;
        }
    }

    private void foresee(int minutes) {
        trial.copyFrom(shop);
        trial.passMinutes(minutes);
    }

    private int foreseen(int what) {
        switch (what) {
            case 0:
                return trial.countMade() - shop.countMade();
            case 1:
                return trial.countScrap() - shop.countScrap();
            case 2:
                return trial.jobCount;
            case 3:
                return trial.lateMinutes - shop.lateMinutes;
            default:
                return trial.blows - shop.blows;
        }
    }

    private int goneBehind(int number) {
        trial.copyFrom(shop);
        return passUntilGone(number);
    }

    /** How much earlier a rush job would be gone, if as it is it would be gone behind so many minutes. */
    private int gainByHaste(int number, int asItIs) {
        trial.copyFrom(shop);
        int place = trial.placeOf(number);
        if (trial.hasten(place, true) == place) {
            // Minutes look at haste through the order alone: in the same order, the same happens.
            return 0;
        }
        int asRush = passUntilGone(number);
        if (asItIs == NONE) {
            return asRush == NONE ? 0 : ONLY_AS_RUSH;
        }
        return asRush == NONE ? -ONLY_AS_RUSH : asItIs - asRush;
    }

    /** Lets the trial pass until a job is gone; returns how many minutes, NONE if it stays too long. */
    private int passUntilGone(int number) {
        for (int passed = 1; passed <= LONGEST_LOOK; passed++) {
            trial.passMinute();
            if (trial.placeOf(number) == NONE) {
                return passed;
            }
        }
        return NONE;
    }

    private int bestNumberOfReheats(int minutes) {
        int best = 0;
        int mostMade = NONE;
        int leastScrap = 0;
        for (int reheats = 0; reheats <= MOST_REHEATS; reheats++) {
            trial.copyFrom(shop);
            trial.reheats = reheats;
            trial.passMinutes(minutes);
            int made = trial.countMade();
            int scrap = trial.countScrap();
            if (made > mostMade || (made == mostMade && scrap < leastScrap)) {
                best = reheats;
                mostMade = made;
                leastScrap = scrap;
            }
        }
        return best;
    }

    private double shareMade() {
        int made = shop.countMade();
        int all = made + shop.countScrap();
        return all == 0 ? 1.0 : (double) made / (double) all;
    }

    /** The bits of a double from 0 to 1; LANGUAGE.md has no Double.doubleToLongBits. */
    private static long bitsOf(double share) {
        if (share <= 0.0) {
            return 0L;
        }
        double scaled = share;
        long exponent = 1023L;
        for (int step = 0; step < 1022 && scaled < 1.0; step++) {
            scaled = scaled * 2.0;
            exponent--;
        }
        // 2 to the power of 52: a double has as many bits behind its point.
        return (exponent << 52) + (long) ((scaled - 1.0) * 4503599627370496.0);
    }

    private static long mix(long hash, long value) {
        return 31L * hash + value;
    }

    private long mixEquipment(long begun) {
        long hash = begun;
        for (int setting = 0; setting < SETTINGS; setting++) {
            hash = mix(hash, shop.valueOf(setting));
        }
        for (int heat = 0; heat < HEATS; heat++) {
            for (int what = 0; what < OF_A_HEAT; what++) {
                hash = mix(hash, shop.heatProperty(heat, what));
            }
        }
        for (int die = 0; die < DIES; die++) {
            for (int what = 0; what < OF_A_DIE; what++) {
                hash = mix(hash, shop.dieAt(die).property(what));
            }
        }
        for (int place = 0; place <= PRESS; place++) {
            for (int what = 0; what < OF_A_BILLET; what++) {
                hash = mix(hash, shop.billetAt(place).property(what));
            }
        }
        return hash;
    }

    private long mixJobs(long begun) {
        long hash = begun;
        for (int place = 0; place < shop.jobCount; place++) {
            for (int what = 0; what < OF_A_JOB; what++) {
                hash = mix(hash, shop.jobProperty(place, what));
            }
            int number = shop.jobAt(place).number;
            int asItIs = goneBehind(number);
            hash = mix(hash, asItIs);
            hash = mix(hash, gainByHaste(number, asItIs));
        }
        return hash;
    }

    /** Billets of one kind, and what was made of them. */
    private static final class Heat {
        int stock;
        int low = 900;
        int high = 1100;
        int made;
        int scrap;

        void copyFrom(Heat other) {
            stock = other.stock;
            low = other.low;
            high = other.high;
            made = other.made;
            scrap = other.scrap;
        }
    }

    /** A die of the press; toGo is the minutes for which it is still ground. */
    private static final class Die {
        int blows = 3;
        int limit = 60;
        int wear;
        int toGo;
        int made;
        int timesGround;

        void copyFrom(Die other) {
            blows = other.blows;
            limit = other.limit;
            wear = other.wear;
            toGo = other.toGo;
            made = other.made;
            timesGround = other.timesGround;
        }

        boolean isBeingGround() {
            return toGo > 0;
        }

        boolean isWornOut() {
            return wear >= limit;
        }

        boolean canForge() {
            return toGo <= 0 && wear < limit;
        }

        void grindMinute() {
            toGo--;
            if (toGo <= 0) {
                wear = 0;
                limit = Math.max(LEAST_LIMIT, limit - LIMIT_LOSS);
                timesGround++;
            }
        }

        int property(int what) {
            switch (what) {
                case 0:
                    return blows;
                case 1:
                    return limit;
                case 2:
                    return wear;
                case 3:
                    return toGo;
                case 4:
                    return made;
                default:
                    return timesGround;
            }
        }
    }

    /** A job; billets counts those of it in the furnace and on the press. */
    private static final class Job {
        int number;
        int die;
        int heat;
        int pieces;
        int made;
        int due;
        boolean isRush;
        int billets;

        void copyFrom(Job other) {
            number = other.number;
            die = other.die;
            heat = other.heat;
            pieces = other.pieces;
            made = other.made;
            due = other.due;
            isRush = other.isRush;
            billets = other.billets;
        }

        boolean comesBefore(Job other) {
            if (isRush != other.isRush) {
                return isRush;
            }
            return due != other.due ? due < other.due : number < other.number;
        }

        int lack() {
            return pieces - made - billets;
        }
    }

    /** What lies at a place of the furnace or on the press: nothing if its job is NONE. */
    private static final class Billet {
        int job = NONE;
        int degrees;
        int reheats;
        int blows;

        void copyFrom(Billet other) {
            job = other.job;
            degrees = other.degrees;
            reheats = other.reheats;
            blows = other.blows;
        }

        int property(int what) {
            if (job == NONE) {
                return NONE;
            }
            switch (what) {
                case 0:
                    return job;
                case 1:
                    return degrees;
                case 2:
                    return reheats;
                default:
                    return blows;
            }
        }
    }

    /** All that undo restores, and the minutes that change it. */
    private static final class Shop {
        private final Heat[] heats;
        private final Die[] dies;
        // In their order, behind them the room for those that may come.
        private final Job[] jobs;
        private final Billet[] furnace;
        private final Billet press;
        int jobCount;
        private int nextNumber;
        private int warming = 150;
        private int cooling = 40;
        int reheats = 1;
        int grinding = 5;
        int minutes;
        int blows;
        int goneJobs;
        int lateJobs;
        int lateMinutes;

        // What is found at an index that is not there, so that no look answers null.
        private final Heat noHeat;
        private final Die noDie;
        private final Job noJob;

        Shop() {
            heats = new Heat[HEATS];
            for (int heat = 0; heat < heats.length; heat++) {
                heats[heat] = new Heat();
            }
            dies = new Die[DIES];
            for (int die = 0; die < dies.length; die++) {
                dies[die] = new Die();
            }
            jobs = new Job[MOST_JOBS];
            for (int place = 0; place < jobs.length; place++) {
                jobs[place] = new Job();
            }
            furnace = new Billet[FURNACE_PLACES];
            for (int place = 0; place < furnace.length; place++) {
                furnace[place] = new Billet();
            }
            press = new Billet();
            noHeat = new Heat();
            noDie = new Die();
            noJob = new Job();
        }

        void copyFrom(Shop other) {
            for (int heat = 0; heat < HEATS; heat++) {
                heatAt(heat).copyFrom(other.heatAt(heat));
            }
            for (int die = 0; die < DIES; die++) {
                dieAt(die).copyFrom(other.dieAt(die));
            }
            for (int place = 0; place < other.jobCount; place++) {
                jobAt(place).copyFrom(other.jobAt(place));
            }
            for (int place = 0; place <= PRESS; place++) {
                billetAt(place).copyFrom(other.billetAt(place));
            }
            copyNumbersFrom(other);
        }

        private void copyNumbersFrom(Shop other) {
            jobCount = other.jobCount;
            nextNumber = other.nextNumber;
            warming = other.warming;
            cooling = other.cooling;
            reheats = other.reheats;
            grinding = other.grinding;
            minutes = other.minutes;
            blows = other.blows;
            goneJobs = other.goneJobs;
            lateJobs = other.lateJobs;
            lateMinutes = other.lateMinutes;
        }

        Heat heatAt(int heat) {
            Heat found = heat >= 0 && heat < heats.length ? heats[heat] : null;
            return found != null ? found : noHeat;
        }

        Die dieAt(int die) {
            Die found = die >= 0 && die < dies.length ? dies[die] : null;
            return found != null ? found : noDie;
        }

        Job jobAt(int place) {
            Job found = place >= 0 && place < jobs.length ? jobs[place] : null;
            return found != null ? found : noJob;
        }

        /** What lies at a place of the furnace, at every other place what lies on the press. */
        Billet billetAt(int place) {
            Billet found = place >= 0 && place < furnace.length ? furnace[place] : null;
            return found != null ? found : press;
        }

        // -- the order of the jobs

        int addJob(int die, int heat, int pieces, int due, boolean isRush) {
            Job added = jobAt(jobCount);
            added.number = nextNumber;
            added.die = die;
            added.heat = heat;
            added.pieces = pieces;
            added.made = 0;
            added.due = due;
            added.isRush = isRush;
            added.billets = 0;
            nextNumber++;
            jobCount++;
            settle(jobCount - 1);
            return added.number;
        }

        /** Makes the job at a place a rush job or none, and returns its new place. */
        int hasten(int place, boolean isRush) {
            jobAt(place).isRush = isRush;
            return settle(place);
        }

        private int settle(int from) {
            int place = from;
            while (place > 0 && jobAt(place).comesBefore(jobAt(place - 1))) {
                swapJobs(place, place - 1);
                place--;
            }
            while (place < jobCount - 1 && jobAt(place + 1).comesBefore(jobAt(place))) {
                swapJobs(place, place + 1);
                place++;
            }
            return place;
        }

        private void swapJobs(int one, int other) {
            if (one >= 0 && one < jobs.length && other >= 0 && other < jobs.length) {
                Job kept = jobs[one];
                jobs[one] = jobs[other];
                jobs[other] = kept;
            }
        }

        int placeOf(int number) {
            for (int place = 0; place < jobCount; place++) {
                if (jobAt(place).number == number) {
                    return place;
                }
            }
            return NONE;
        }

        private void removeJob(int place) {
            jobCount--;
            for (int at = place; at < jobCount; at++) {
                swapJobs(at, at + 1);
            }
        }

        /** Takes the job at a place away, and returns how many billets become scrap. */
        int dropJob(int place) {
            Job dropped = jobAt(place);
            for (int spot = 0; spot <= PRESS; spot++) {
                Billet billet = billetAt(spot);
                if (billet.job == dropped.number) {
                    billet.job = NONE;
                }
            }
            heatAt(dropped.heat).scrap += dropped.billets;
            removeJob(place);
            return dropped.billets;
        }

        // -- what can be told of the shop

        int valueOf(int setting) {
            switch (setting) {
                case WARMING:
                    return warming;
                case COOLING:
                    return cooling;
                case REHEATS:
                    return reheats;
                default:
                    return grinding;
            }
        }

        void putValue(int setting, int value) {
            switch (setting) {
                case WARMING:
                    warming = value;
                    break;
                case COOLING:
                    cooling = value;
                    break;
                case REHEATS:
                    reheats = value;
                    break;
                default:
                    grinding = value;
                    break;
            }
        }

        int countMade() {
            int made = 0;
            for (int heat = 0; heat < HEATS; heat++) {
                made += heatAt(heat).made;
            }
            return made;
        }

        int countScrap() {
            int scrap = 0;
            for (int heat = 0; heat < HEATS; heat++) {
                scrap += heatAt(heat).scrap;
            }
            return scrap;
        }

        int countRushJobs() {
            int rushJobs = 0;
            for (int place = 0; place < jobCount; place++) {
                if (jobAt(place).isRush) {
                    rushJobs++;
                }
            }
            return rushJobs;
        }

        int countInFurnace() {
            int count = 0;
            for (Billet billet : furnace) {
                if (billet != null && billet.job != NONE) {
                    count++;
                }
            }
            return count;
        }

        int heatProperty(int number, int what) {
            Heat heat = heatAt(number);
            switch (what) {
                case 0:
                    return heat.stock;
                case 1:
                    return heat.low;
                case 2:
                    return heat.high;
                case 3:
                    return countBilletsOf(number);
                case 4:
                    return heat.made;
                case 5:
                    return heat.scrap;
                default:
                    return countLackOf(number);
            }
        }

        private int countBilletsOf(int heat) {
            int count = 0;
            for (int place = 0; place < jobCount; place++) {
                Job job = jobAt(place);
                if (job.heat == heat) {
                    count += job.billets;
                }
            }
            return count;
        }

        private int countLackOf(int heat) {
            int lack = 0;
            for (int place = 0; place < jobCount; place++) {
                Job job = jobAt(place);
                if (job.heat == heat) {
                    lack += job.lack();
                }
            }
            return lack;
        }

        int jobProperty(int place, int what) {
            Job job = jobAt(place);
            switch (what) {
                case 0:
                    return job.number;
                case 1:
                    return job.die;
                case 2:
                    return job.heat;
                case 3:
                    return job.pieces;
                case 4:
                    return job.made;
                case 5:
                    return job.due;
                case 6:
                    return job.isRush ? 1 : 0;
                default:
                    return reasonToWait(job);
            }
        }

        private int reasonToWait(Job job) {
            Die die = dieAt(job.die);
            if (press.job == job.number) {
                return 0;
            }
            if (die.isBeingGround()) {
                return 1;
            }
            if (die.isWornOut()) {
                return 2;
            }
            // None of its billets is on the press here, so all that it has are in the furnace.
            if (job.billets == 0 && heatAt(job.heat).stock == 0) {
                return 3;
            }
            if (hottestReady(job) == null) {
                return 4;
            }
            return press.job != NONE ? 5 : 6;
        }

        int dieBeingGround() {
            for (int die = 0; die < DIES; die++) {
                if (dieAt(die).isBeingGround()) {
                    return die;
                }
            }
            return NONE;
        }

        /** The lowest place of the furnace without a billet, null if there is none. */
        private Billet freePlace() {
            for (Billet billet : furnace) {
                if (billet != null && billet.job == NONE) {
                    return billet;
                }
            }
            return null;
        }

        /** The hottest billet of a job that is hot enough for the press, null if there is none. */
        private Billet hottestReady(Job job) {
            int least = heatAt(job.heat).high;
            Billet hottest = null;
            for (Billet billet : furnace) {
                if (billet != null && billet.job == job.number && billet.degrees >= least) {
                    hottest = billet;
                    // From here on only a hotter one is better, so the lowest of equals stays.
                    least = billet.degrees + 1;
                }
            }
            return hottest;
        }

        // -- a minute

        void passMinutes(int count) {
            for (int passed = 0; passed < count; passed++) {
                passMinute();
            }
        }

        void passMinute() {
            minutes++;
            warmFurnace();
            chargeFurnace();
            if (press.job == NONE) {
                loadPress();
            } else {
                workPress(placeOf(press.job));
            }
            tendDies();
        }

        private void warmFurnace() {
            for (Billet billet : furnace) {
                if (billet != null && billet.job != NONE) {
                    billet.degrees = Math.min(HOTTEST, billet.degrees + warming);
                }
            }
        }

        private void chargeFurnace() {
            Billet free = freePlace();
            if (free == null) {
                return;
            }
            for (int place = 0; place < jobCount; place++) {
                Job job = jobAt(place);
                Heat heat = heatAt(job.heat);
                if (heat.stock > 0 && job.lack() > 0) {
                    heat.stock--;
                    job.billets++;
                    free.job = job.number;
                    free.degrees = COLDEST;
                    free.reheats = 0;
                    free.blows = dieAt(job.die).blows;
                    return;
                }
            }
        }

        private void loadPress() {
            for (int place = 0; place < jobCount; place++) {
                Job job = jobAt(place);
                if (job.billets > 0 && dieAt(job.die).canForge()) {
                    Billet hottest = hottestReady(job);
                    if (hottest != null) {
                        press.copyFrom(hottest);
                        hottest.job = NONE;
                        return;
                    }
                }
            }
        }

        private void workPress(int place) {
            Job job = jobAt(place);
            Heat heat = heatAt(job.heat);
            Die die = dieAt(job.die);
            if (!die.canForge() || press.degrees < heat.low) {
                sendBack(job, heat);
                return;
            }
            die.wear += 1 + Math.max(0, heat.high - press.degrees) / DEGREES_A_WEAR;
            press.degrees = Math.max(COLDEST, press.degrees - cooling);
            press.blows--;
            blows++;
            if (press.blows > 0) {
                return;
            }
            press.job = NONE;
            job.billets--;
            job.made++;
            heat.made++;
            die.made++;
            if (job.made >= job.pieces) {
                countGone(job);
                removeJob(place);
            }
        }

        private void sendBack(Job job, Heat heat) {
            press.reheats++;
            Billet free = freePlace();
            if (free == null || press.reheats > reheats) {
                job.billets--;
                heat.scrap++;
            } else {
                free.copyFrom(press);
            }
            press.job = NONE;
        }

        private void countGone(Job job) {
            goneJobs++;
            int lateBy = minutes - job.due;
            if (lateBy > 0) {
                lateJobs++;
                lateMinutes += lateBy;
            }
        }

        private void tendDies() {
            int ground = dieBeingGround();
            if (ground != NONE) {
                Die die = dieAt(ground);
                die.grindMinute();
                if (die.isBeingGround()) {
                    return;
                }
            }
            for (int number = 0; number < DIES; number++) {
                Die die = dieAt(number);
                if (die.isWornOut()) {
                    die.toGo = grinding;
                    return;
                }
            }
        }
    }

    /** The buffer, and the reading of jobs from it. */
    private static final class JobText {
        private static final int ROOM = 60;

        // What the next character belongs to.
        private static final int FIRST_OF_PIECES = 0;
        private static final int MORE_PIECES = 1;
        private static final int DIE = 2;
        private static final int BEHIND_DIE = 3;
        private static final int HEAT = 4;
        private static final int BEHIND_HEAT = 5;
        private static final int FIRST_OF_DUE = 6;
        private static final int MORE_DUE = 7;
        private static final int BEHIND_RUSH = 8;

        private final char[] codes;
        int length;
        private int position;
        private int expected;
        int pieces;
        int die;
        int heat;
        int due;
        boolean isRush;

        JobText() {
            codes = new char[ROOM];
        }

        boolean isFull() {
            return length >= codes.length;
        }

        int put(int code) {
            if (length >= 0 && length < codes.length) {
                codes[length] = (char) code;
                length++;
            }
            return length;
        }

        int empty() {
            int before = length;
            length = 0;
            return before;
        }

        int codeAt(int index) {
            return index >= 0 && index < codes.length ? codes[index] : 0;
        }

        void begin() {
            position = 0;
            expected = FIRST_OF_PIECES;
        }

        int firstWrong() {
            begin();
            for (int index = 0; index < length; index++) {
                if (!read(codeAt(index))) {
                    return index;
                }
            }
            return length;
        }

        boolean isComplete() {
            return firstWrong() == length
                && (expected == BEHIND_HEAT || expected == MORE_DUE || expected == BEHIND_RUSH);
        }

        int countParts() {
            int parts = 1;
            for (int index = 0; index < length; index++) {
                if (codeAt(index) == ';') {
                    parts++;
                }
            }
            return parts;
        }

        /** Reads the next part of a complete text; its fields stay until the one behind it is read. */
        void readPart() {
            for (boolean isOpen = true; isOpen && position < length; position++) {
                read(codeAt(position));
                isOpen = codeAt(position) != ';';
            }
        }

        /** Reads a character, and returns whether it may stand here. */
        private boolean read(int code) {
            int digit = code >= '0' && code <= '9' ? code - '0' : NONE;
            switch (expected) {
                case FIRST_OF_PIECES:
                    beginPart(digit);
                    return digit > 0;
                case MORE_PIECES:
                    if (code == 'd') {
                        expected = DIE;
                        return true;
                    }
                    pieces = 10 * pieces + digit;
                    return digit != NONE && pieces <= MOST_PIECES;
                case DIE:
                    die = digit;
                    expected = BEHIND_DIE;
                    return digit != NONE && digit < DIES;
                case BEHIND_DIE:
                    expected = HEAT;
                    return code == 'h';
                case HEAT:
                    heat = digit;
                    expected = BEHIND_HEAT;
                    return digit != NONE && digit < HEATS;
                case BEHIND_HEAT:
                    if (code == '@') {
                        expected = FIRST_OF_DUE;
                        return true;
                    }
                    return readEnd(code);
                case FIRST_OF_DUE:
                    due = digit;
                    expected = MORE_DUE;
                    return digit != NONE;
                case MORE_DUE:
                    return digit == NONE ? readEnd(code) : readMoreDue(digit);
                default:
                    return readSeparator(code);
            }
        }

        private void beginPart(int firstDigit) {
            pieces = firstDigit;
            due = LAST_DUE;
            isRush = false;
            expected = MORE_PIECES;
        }

        private boolean readMoreDue(int digit) {
            boolean hasLeadingZero = due == 0;
            due = 10 * due + digit;
            return !hasLeadingZero && due <= LAST_DUE;
        }

        private boolean readEnd(int code) {
            if (code == '!') {
                isRush = true;
                expected = BEHIND_RUSH;
                return true;
            }
            return readSeparator(code);
        }

        private boolean readSeparator(int code) {
            expected = FIRST_OF_PIECES;
            return code == ';';
        }
    }
}
