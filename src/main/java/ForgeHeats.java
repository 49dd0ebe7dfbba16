/**
 * A forge shop with billets by heat, dies that wear, and rush jobs.
 * The promises that its calls keep stand in ../shared/DOC.md.
 */
public final class ForgeHeats {
    /** There is nothing to return. */
    public static final int NONE = -1;

    private static final int HEATS = 4;
    private static final int MOST_ADDED = 99;
    private static final int MOST_STOCK = 200;
    private static final int LEAST_DEGREES = 600;
    private static final int MOST_DEGREES = 1240;
    private static final int LOW_FACTOR = 10000;

    private static final int DIES = 5;
    private static final int MOST_BLOWS = 9;
    private static final int LEAST_LIMIT = 10;
    private static final int MOST_LIMIT = 300;
    private static final int LIMIT_LOSS = 5;

    private static final int MOST_JOBS = 10;
    private static final int MOST_PIECES = 40;
    private static final int LAST_DUE = 9999;

    private static final int FURNACE_PLACES = 6;
    private static final int PRESS = 6;
    private static final int COLDEST = 20;
    private static final int HOTTEST = 1250;
    private static final int DEGREES_A_WEAR = 100;

    private static final int SETTINGS = 4;
    private static final int WARMING = 0;
    private static final int COOLING = 1;
    private static final int REHEATS = 2;
    private static final int GRINDING = 3;
    private static final int MOST_REHEATS = 3;

    private static final int LAST_MINUTE = 9999;
    private static final int LONGEST_PASS = 120;
    private static final int LONGEST_LOOK = 240;
    private static final int ONLY_AS_RUSH = 999;
    private static final int MOST_SAVED = 6;
    private static final int FIRST_CODE = 33;
    private static final int LAST_CODE = 126;

    // The columns of the tables bear the numbers that the document gives to the properties,
    // so that a look reads its column; properties that are counted when asked for have none.
    private static final int HEAT_STOCK = 0;
    private static final int HEAT_LOW = 1;
    private static final int HEAT_HIGH = 2;
    private static final int HEAT_BILLETS = 3;
    private static final int HEAT_MADE = 4;
    private static final int HEAT_SCRAP = 5;
    private static final int HEAT_LACK = 6;

    private static final int DIE_BLOWS = 0;
    private static final int DIE_LIMIT = 1;
    private static final int DIE_WEAR = 2;
    private static final int DIE_TO_GO = 3;
    private static final int DIE_MADE = 4;
    private static final int DIE_GROUND = 5;

    private static final int JOB_NUMBER = 0;
    private static final int JOB_DIE = 1;
    private static final int JOB_HEAT = 2;
    private static final int JOB_PIECES = 3;
    private static final int JOB_MADE = 4;
    private static final int JOB_DUE = 5;
    private static final int JOB_RUSH = 6;
    private static final int JOB_REASON = 7;

    private static final int BILLET_JOB = 0;
    private static final int BILLET_DEGREES = 1;
    private static final int BILLET_REHEATS = 2;
    private static final int BILLET_BLOWS = 3;

    private static final int COUNTS = 12;
    private static final int FORESEEN = 5;

    private final Shop shop;
    private final Shop trial;
    private final Shop[] past;
    private int pastStates;
    private final JobText text;

    /** Creates a shop without stock and jobs, with an empty buffer. */
    public ForgeHeats() {
        shop = new Shop();
        trial = new Shop();
        past = new Shop[MOST_SAVED];
        for (int index = 0; index < past.length; index++) {
            past[index] = new Shop();
        }
        pastStates = 0;
        text = new JobText();
    }

    // ---- heats, dies

    /** Adds billets to the stock of a heat; returns the stock then. */
    public int stock(int heat, int billets)
            throws IndexOutOfBoundsException, IllegalArgumentException, IllegalStateException {
        if (!isWithin(heat, 0, HEATS - 1)) {
            throw new IndexOutOfBoundsException("no such heat");
        }
        if (!isWithin(billets, 1, MOST_ADDED)) {
            throw new IllegalArgumentException("billets out of range");
        }
        if (shop.heats.get(heat, HEAT_STOCK) + billets > MOST_STOCK) {
            throw new IllegalStateException("too much stock");
        }
        remember();
        shop.heats.add(heat, HEAT_STOCK, billets);
        return shop.heats.get(heat, HEAT_STOCK);
    }

    /** Changes the temperatures of a heat; returns the previous ones. */
    public int range(int heat, int low, int high)
            throws IndexOutOfBoundsException, IllegalArgumentException {
        if (!isWithin(heat, 0, HEATS - 1)) {
            throw new IndexOutOfBoundsException("no such heat");
        }
        if (!isWithin(low, LEAST_DEGREES, MOST_DEGREES) || !isWithin(high, low, MOST_DEGREES)) {
            throw new IllegalArgumentException("temperature out of range");
        }
        remember();
        int previous = LOW_FACTOR * shop.heats.get(heat, HEAT_LOW) + shop.heats.get(heat, HEAT_HIGH);
        shop.heats.put(heat, HEAT_LOW, low);
        shop.heats.put(heat, HEAT_HIGH, high);
        return previous;
    }

    /** Changes a die, which is as new then; returns its previous wear. */
    public int die(int die, int blows, int limit)
            throws IndexOutOfBoundsException, IllegalArgumentException, IllegalStateException {
        if (!isWithin(die, 0, DIES - 1)) {
            throw new IndexOutOfBoundsException("no such die");
        }
        if (!isWithin(blows, 1, MOST_BLOWS) || !isWithin(limit, LEAST_LIMIT, MOST_LIMIT)) {
            throw new IllegalArgumentException("blows or limit out of range");
        }
        if (shop.isBeingGround(die)) {
            throw new IllegalStateException("the die is being ground");
        }
        remember();
        int wear = shop.dies.get(die, DIE_WEAR);
        shop.dies.put(die, DIE_BLOWS, blows);
        shop.dies.put(die, DIE_LIMIT, limit);
        shop.dies.put(die, DIE_WEAR, 0);
        return wear;
    }

    /** Begins to grind a die; returns its wear. */
    public int grind(int die) throws IndexOutOfBoundsException, IllegalStateException {
        if (!isWithin(die, 0, DIES - 1)) {
            throw new IndexOutOfBoundsException("no such die");
        }
        if (shop.dieBeingGround() != NONE) {
            throw new IllegalStateException("a die is being ground");
        }
        remember();
        shop.beginGrinding(die);
        return shop.dies.get(die, DIE_WEAR);
    }

    // ---- jobs

    /** Adds a job; returns its number. */
    public int job(int die, int heat, int pieces, int due, boolean isRush)
            throws IndexOutOfBoundsException, IllegalArgumentException, IllegalStateException {
        if (!isWithin(die, 0, DIES - 1) || !isWithin(heat, 0, HEATS - 1)) {
            throw new IndexOutOfBoundsException("no such die or heat");
        }
        if (!isWithin(pieces, 1, MOST_PIECES) || !isWithin(due, 0, LAST_DUE)) {
            throw new IllegalArgumentException("pieces or due out of range");
        }
        if (shop.jobCount >= MOST_JOBS) {
            throw new IllegalStateException("too many jobs");
        }
        remember();
        return shop.addJob(die, heat, pieces, due, isRush);
    }

    /** Cancels a job; returns how many billets become scrap. */
    public int cancel(int number) throws IndexOutOfBoundsException {
        int place = shop.placeOf(number);
        if (place == NONE) {
            throw new IndexOutOfBoundsException("no such job");
        }
        remember();
        return shop.dropJob(place);
    }

    /** Makes a job a rush job, or none; returns its place in the order then. */
    public int rush(int number, boolean isRush) throws IndexOutOfBoundsException {
        int place = shop.placeOf(number);
        if (place == NONE) {
            throw new IndexOutOfBoundsException("no such job");
        }
        remember();
        return shop.hasten(place, isRush);
    }

    /** Changes a setting; returns the previous value. */
    public int set(int setting, int value) throws IndexOutOfBoundsException, IllegalArgumentException {
        if (!isWithin(setting, 0, SETTINGS - 1)) {
            throw new IndexOutOfBoundsException("no such setting");
        }
        if (!isWithin(value, leastValue(setting), mostValue(setting))) {
            throw new IllegalArgumentException("value out of range");
        }
        remember();
        int previous = shop.valueOf(setting);
        shop.settings.put(setting, 0, value);
        return previous;
    }

    /** Lets minutes pass; returns how many pieces are made in them. */
    public int pass(int minutes) throws IllegalArgumentException, IllegalStateException {
        if (!isWithin(minutes, 1, LONGEST_PASS)) {
            throw new IllegalArgumentException("minutes out of range");
        }
        if (shop.minutes + minutes > LAST_MINUTE) {
            throw new IllegalStateException("too many minutes");
        }
        remember();
        int before = shop.totalOf(HEAT_MADE);
        shop.passMinutes(minutes);
        return shop.totalOf(HEAT_MADE) - before;
    }

    // ---- texts

    /** Appends a character to the buffer; returns its new length. */
    public int append(int code) throws IllegalArgumentException, IllegalStateException {
        if (!isWithin(code, FIRST_CODE, LAST_CODE)) {
            throw new IllegalArgumentException("no such character");
        }
        if (text.isFull()) {
            throw new IllegalStateException("the buffer is full");
        }
        return text.put(code);
    }

    /** Clears the buffer; returns the length that it had. */
    public int clearBuffer() {
        return text.empty();
    }

    /** Returns the index of the first syntax error, or the length of the buffer. */
    public int firstError() {
        return text.firstWrong();
    }

    /** Adds the jobs in the buffer, all or none; returns how many jobs there are then. */
    public int addAll() throws IllegalArgumentException, IllegalStateException {
        if (!text.isComplete()) {
            throw new IllegalArgumentException("no jobs as a text");
        }
        int parts = text.countParts();
        if (shop.jobCount + parts > MOST_JOBS) {
            throw new IllegalStateException("too many jobs");
        }
        remember();
        text.begin();
        for (int part = 0; part < parts; part++) {
            text.readPart();
            shop.addJob(text.die, text.heat, text.pieces, text.due, text.isRush);
        }
        text.empty();
        return shop.jobCount;
    }

    /** Restores the latest saved state; returns how many are left. */
    public int undo() throws IllegalStateException {
        Shop latest = pastAt(pastStates - 1);
        if (pastStates <= 0 || latest == null) {
            throw new IllegalStateException("no saved state");
        }
        shop.copyFrom(latest);
        pastStates--;
        return pastStates;
    }

    // ---- looks; nothing is changed

    /** Returns a property of a heat. */
    public int heat(int heat, int what) throws IndexOutOfBoundsException, IllegalArgumentException {
        if (!isWithin(heat, 0, HEATS - 1)) {
            throw new IndexOutOfBoundsException("no such heat");
        }
        if (!isWithin(what, 0, HEAT_LACK)) {
            throw new IllegalArgumentException("no such property");
        }
        return shop.heatProperty(heat, what);
    }

    /** Returns a property of a die. */
    public int dieOf(int die, int what) throws IndexOutOfBoundsException, IllegalArgumentException {
        if (!isWithin(die, 0, DIES - 1)) {
            throw new IndexOutOfBoundsException("no such die");
        }
        if (!isWithin(what, 0, DIE_GROUND)) {
            throw new IllegalArgumentException("no such property");
        }
        return shop.dies.get(die, what);
    }

    /** Returns a property of the job at a place in the order, NONE if there is none. */
    public int jobOf(int place, int what) throws IllegalArgumentException {
        if (place < 0 || !isWithin(what, 0, JOB_REASON)) {
            throw new IllegalArgumentException("no such place or property");
        }
        return place < shop.jobCount ? shop.jobProperty(place, what) : NONE;
    }

    /** Returns a property of the billet at a place, NONE if there is none. */
    public int billet(int place, int what) throws IndexOutOfBoundsException, IllegalArgumentException {
        if (!isWithin(place, 0, PRESS)) {
            throw new IndexOutOfBoundsException("no such place");
        }
        if (!isWithin(what, 0, BILLET_BLOWS)) {
            throw new IllegalArgumentException("no such property");
        }
        return shop.billetProperty(place, what);
    }

    /** Returns a number of the whole shop. */
    public int count(int what) throws IllegalArgumentException {
        if (!isWithin(what, 0, COUNTS - 1)) {
            throw new IllegalArgumentException("no such number");
        }
        return numberOf(what);
    }

    /** Returns a setting. */
    public int setting(int setting) throws IndexOutOfBoundsException {
        if (!isWithin(setting, 0, SETTINGS - 1)) {
            throw new IndexOutOfBoundsException("no such setting");
        }
        return shop.valueOf(setting);
    }

    // ---- what would be; nothing is changed

    /** Tells what minutes would bring. */
    public int ifPassed(int minutes, int what) throws IllegalArgumentException {
        if (!isWithin(minutes, 1, LONGEST_LOOK) || !isWithin(what, 0, FORESEEN - 1)) {
            throw new IllegalArgumentException("minutes or what out of range");
        }
        return foresee(minutes, what);
    }

    /** Tells behind how many minutes a job would be gone. */
    public int doneIn(int number) throws IndexOutOfBoundsException {
        if (shop.placeOf(number) == NONE) {
            throw new IndexOutOfBoundsException("no such job");
        }
        return goneBehind(number, false);
    }

    /** Tells by how many minutes a job would be gone earlier as a rush job. */
    public int ifRush(int number) throws IndexOutOfBoundsException {
        if (shop.placeOf(number) == NONE) {
            throw new IndexOutOfBoundsException("no such job");
        }
        return gain(goneBehind(number, false), goneBehind(number, true));
    }

    /** Finds the number of reheats with most pieces, then least scrap. */
    public int bestReheats(int minutes) throws IllegalArgumentException {
        if (!isWithin(minutes, 1, LONGEST_PASS)) {
            throw new IllegalArgumentException("minutes out of range");
        }
        return bestNumberOfReheats(minutes);
    }

    /** Returns the share of pieces among pieces and scrap. */
    public double saved() {
        return shareMade();
    }

    /** Computes a hash of the whole state. */
    public long digest() {
        long hash = 2857L;
        for (int what = 0; what < COUNTS; what++) {
            hash = mix(hash, numberOf(what));
        }
        hash = mixEquipment(hash);
        hash = mixJobs(hash);
        for (int what = 0; what < FORESEEN; what++) {
            hash = mix(hash, foresee(30, what));
        }
        hash = mix(hash, bestNumberOfReheats(40));
        hash = mix(hash, bitsOf(shareMade()));
        hash = mix(hash, text.length);
        for (int index = 0; index < text.length; index++) {
            hash = mix(hash, text.codeAt(index));
        }
        return hash;
    }

    // ---- behind the face

    private static boolean isWithin(int value, int least, int most) {
        return value >= least && value <= most;
    }

    private static int leastValue(int setting) {
        switch (setting) {
            case WARMING:
                return 10;
            case REHEATS:
                return 0;
            default:
                return 1;
        }
    }

    private static int mostValue(int setting) {
        switch (setting) {
            case WARMING:
                return 300;
            case COOLING:
                return 200;
            case REHEATS:
                return MOST_REHEATS;
            default:
                return 30;
        }
    }

    private void remember() {
        if (pastStates >= past.length) {
            dropOldest();
        }
        Shop next = pastAt(pastStates);
        if (next != null) {
            next.copyFrom(shop);
            pastStates++;
        }
    }

    private void dropOldest() {
        Shop oldest = pastAt(0);
        int last = past.length - 1;
        for (int index = 0; index < last; index++) {
            past[index] = past[index + 1];
        }
        if (last >= 0) {
            // The oldest state's room is used again for the state that is saved next.
            past[last] = oldest;
            pastStates = last;
        }
    }

    private Shop pastAt(int index) {
        return index >= 0 && index < past.length ? past[index] : null;
    }

    private int numberOf(int what) {
        switch (what) {
            case 0:
                return shop.minutes;
            case 1:
                return shop.jobCount;
            case 2:
                return shop.countRushJobs();
            case 3:
                return shop.countInFurnace();
            case 4:
                return shop.totalOf(HEAT_MADE);
            case 5:
                return shop.totalOf(HEAT_SCRAP);
            case 6:
                return shop.blows;
            case 7:
                return shop.goneJobs;
            case 8:
                return shop.lateJobs;
            case 9:
                return shop.lateMinutes;
            case 10:
                return shop.dieBeingGround();
            default:
                return pastStates;
        }
    }

    private int foresee(int minutes, int what) {
        trial.copyFrom(shop);
        trial.passMinutes(minutes);
        switch (what) {
            case 0:
                return trial.totalOf(HEAT_MADE) - shop.totalOf(HEAT_MADE);
            case 1:
                return trial.totalOf(HEAT_SCRAP) - shop.totalOf(HEAT_SCRAP);
            case 2:
                return trial.jobCount;
            case 3:
                return trial.lateMinutes - shop.lateMinutes;
            default:
                return trial.blows - shop.blows;
        }
    }

    private int goneBehind(int number, boolean asRush) {
        trial.copyFrom(shop);
        if (asRush) {
            trial.hasten(trial.placeOf(number), true);
        }
        return trial.passUntilGone(number);
    }

    private static int gain(int asItIs, int asRush) {
        if (asItIs == NONE && asRush == NONE) {
            return 0;
        }
        if (asItIs == NONE) {
            return ONLY_AS_RUSH;
        }
        if (asRush == NONE) {
            return -ONLY_AS_RUSH;
        }
        return asItIs - asRush;
    }

    private int bestNumberOfReheats(int minutes) {
        int best = 0;
        int mostMade = NONE;
        int leastScrap = 0;
        for (int reheats = 0; reheats <= MOST_REHEATS; reheats++) {
            trial.copyFrom(shop);
            trial.settings.put(REHEATS, 0, reheats);
            trial.passMinutes(minutes);
            int made = trial.totalOf(HEAT_MADE);
            int scrap = trial.totalOf(HEAT_SCRAP);
            if (made > mostMade || (made == mostMade && scrap < leastScrap)) {
                best = reheats;
                mostMade = made;
                leastScrap = scrap;
            }
        }
        return best;
    }

    private double shareMade() {
        int made = shop.totalOf(HEAT_MADE);
        int all = made + shop.totalOf(HEAT_SCRAP);
        return all == 0 ? 1.0 : (double) made / (double) all;
    }

    /** The bits of a double from 0 to 1; LANGUAGE.md has no Double.doubleToLongBits. */
    private static long bitsOf(double share) {
        if (share <= 0.0) {
            return 0L;
        }
        double scaled = share;
        long exponent = 1023L;
        for (int step = 0; step < 1022 && scaled < 1.0; step++) {
            scaled = scaled * 2.0;
            exponent--;
        }
        // 2 to the power of 52: a double has as many bits behind its point.
        return (exponent << 52) + (long) ((scaled - 1.0) * 4503599627370496.0);
    }

    private static long mix(long hash, long value) {
        return 31L * hash + value;
    }

    private long mixEquipment(long begun) {
        long hash = begun;
        for (int setting = 0; setting < SETTINGS; setting++) {
            hash = mix(hash, shop.valueOf(setting));
        }
        for (int heat = 0; heat < HEATS; heat++) {
            for (int what = 0; what <= HEAT_LACK; what++) {
                hash = mix(hash, shop.heatProperty(heat, what));
            }
        }
        for (int die = 0; die < DIES; die++) {
            for (int what = 0; what <= DIE_GROUND; what++) {
                hash = mix(hash, shop.dies.get(die, what));
            }
        }
        for (int place = 0; place <= PRESS; place++) {
            for (int what = 0; what <= BILLET_BLOWS; what++) {
                hash = mix(hash, shop.billetProperty(place, what));
            }
        }
        return hash;
    }

    private long mixJobs(long begun) {
        long hash = begun;
        for (int place = 0; place < shop.jobCount; place++) {
            for (int what = 0; what <= JOB_REASON; what++) {
                hash = mix(hash, shop.jobProperty(place, what));
            }
            int number = shop.jobs.get(place, JOB_NUMBER);
            int asItIs = goneBehind(number, false);
            hash = mix(hash, asItIs);
            hash = mix(hash, gain(asItIs, goneBehind(number, true)));
        }
        return hash;
    }

    /** Rows of numbers; a cell that there is not reads as 0 and takes nothing. */
    private static final class Table {
        private final int columns;
        private final int[] cells;

        Table(int rows, int columns) {
            this.columns = columns;
            this.cells = new int[Math.max(0, rows * columns)];
        }

        int get(int row, int column) {
            int index = row * columns + column;
            return index >= 0 && index < cells.length ? cells[index] : 0;
        }

        void put(int row, int column, int value) {
            int index = row * columns + column;
            if (index >= 0 && index < cells.length) {
                cells[index] = value;
            }
        }

        void add(int row, int column, int more) {
            int index = row * columns + column;
            if (index >= 0 && index < cells.length) {
                cells[index] += more;
            }
        }

        void swapRows(int one, int other) {
            for (int column = 0; column < columns; column++) {
                int kept = get(one, column);
                put(one, column, get(other, column));
                put(other, column, kept);
            }
        }

        void removeRow(int row) {
            for (int index = Math.max(0, row * columns); index < cells.length - columns; index++) {
                int behind = index + columns;
                if (behind >= 0 && behind < cells.length) {
                    cells[index] = cells[behind];
                }
            }
        }

        void copyFrom(Table other) {
            System.arraycopy(other.cells, 0, cells, 0, Math.min(cells.length, other.cells.length));
        }
    }

    /** All that undo restores, and the minutes that change it. */
    private static final class Shop {
        final Table heats;
        final Table dies;
        final Table jobs;
        final Table billets;
        final Table settings;
        int jobCount;
        int nextNumber;
        int minutes;
        int blows;
        int goneJobs;
        int lateJobs;
        int lateMinutes;

        Shop() {
            heats = new Table(HEATS, HEAT_SCRAP + 1);
            for (int heat = 0; heat < HEATS; heat++) {
                heats.put(heat, HEAT_LOW, 900);
                heats.put(heat, HEAT_HIGH, 1100);
            }
            dies = new Table(DIES, DIE_GROUND + 1);
            for (int die = 0; die < DIES; die++) {
                dies.put(die, DIE_BLOWS, 3);
                dies.put(die, DIE_LIMIT, 60);
            }
            jobs = new Table(MOST_JOBS, JOB_RUSH + 1);
            billets = new Table(PRESS + 1, BILLET_BLOWS + 1);
            for (int place = 0; place <= PRESS; place++) {
                billets.put(place, BILLET_JOB, NONE);
            }
            settings = new Table(SETTINGS, 1);
            settings.put(WARMING, 0, 150);
            settings.put(COOLING, 0, 40);
            settings.put(REHEATS, 0, 1);
            settings.put(GRINDING, 0, 5);
        }

        void copyFrom(Shop other) {
            heats.copyFrom(other.heats);
            dies.copyFrom(other.dies);
            jobs.copyFrom(other.jobs);
            billets.copyFrom(other.billets);
            settings.copyFrom(other.settings);
            jobCount = other.jobCount;
            nextNumber = other.nextNumber;
            minutes = other.minutes;
            blows = other.blows;
            goneJobs = other.goneJobs;
            lateJobs = other.lateJobs;
            lateMinutes = other.lateMinutes;
        }

        // -- the order of the jobs: row 0 of the table is the first job

        int addJob(int die, int heat, int pieces, int due, boolean isRush) {
            int place = jobCount;
            int number = nextNumber;
            jobs.put(place, JOB_NUMBER, number);
            jobs.put(place, JOB_DIE, die);
            jobs.put(place, JOB_HEAT, heat);
            jobs.put(place, JOB_PIECES, pieces);
            jobs.put(place, JOB_MADE, 0);
            jobs.put(place, JOB_DUE, due);
            jobs.put(place, JOB_RUSH, isRush ? 1 : 0);
            jobCount++;
            nextNumber++;
            settle(place);
            return number;
        }

        /** Makes the job at a place a rush job or none, and returns its new place. */
        int hasten(int place, boolean isRush) {
            jobs.put(place, JOB_RUSH, isRush ? 1 : 0);
            return settle(place);
        }

        private int settle(int from) {
            int place = from;
            for (; place > 0 && comesBefore(place, place - 1); place--) {
                jobs.swapRows(place, place - 1);
            }
            for (; place < jobCount - 1 && comesBefore(place + 1, place); place++) {
                jobs.swapRows(place, place + 1);
            }
            return place;
        }

        private boolean comesBefore(int one, int other) {
            int haste = jobs.get(one, JOB_RUSH) - jobs.get(other, JOB_RUSH);
            if (haste != 0) {
                return haste > 0;
            }
            int delay = jobs.get(one, JOB_DUE) - jobs.get(other, JOB_DUE);
            if (delay != 0) {
                return delay < 0;
            }
            return jobs.get(one, JOB_NUMBER) < jobs.get(other, JOB_NUMBER);
        }

        int placeOf(int number) {
            for (int place = 0; place < jobCount; place++) {
                if (jobs.get(place, JOB_NUMBER) == number) {
                    return place;
                }
            }
            return NONE;
        }

        private void removeJob(int place) {
            jobs.removeRow(place);
            jobCount--;
        }

        /** Takes the job at a place away, and returns how many billets become scrap. */
        int dropJob(int place) {
            int number = jobs.get(place, JOB_NUMBER);
            int scrap = 0;
            for (int spot = 0; spot <= PRESS; spot++) {
                if (billets.get(spot, BILLET_JOB) == number) {
                    billets.put(spot, BILLET_JOB, NONE);
                    scrap++;
                }
            }
            heats.add(jobs.get(place, JOB_HEAT), HEAT_SCRAP, scrap);
            removeJob(place);
            return scrap;
        }

        // -- what can be told of the shop

        int valueOf(int setting) {
            return settings.get(setting, 0);
        }

        int totalOf(int heatColumn) {
            int total = 0;
            for (int heat = 0; heat < HEATS; heat++) {
                total += heats.get(heat, heatColumn);
            }
            return total;
        }

        int countRushJobs() {
            int rushJobs = 0;
            for (int place = 0; place < jobCount; place++) {
                rushJobs += jobs.get(place, JOB_RUSH);
            }
            return rushJobs;
        }

        int countInFurnace() {
            int count = 0;
            for (int spot = 0; spot < FURNACE_PLACES; spot++) {
                if (billets.get(spot, BILLET_JOB) != NONE) {
                    count++;
                }
            }
            return count;
        }

        int heatProperty(int heat, int what) {
            if (what == HEAT_BILLETS) {
                return countBilletsOf(heat);
            }
            if (what == HEAT_LACK) {
                return lackOfHeat(heat);
            }
            return heats.get(heat, what);
        }

        private int countBilletsOf(int heat) {
            int count = 0;
            for (int place = 0; place < jobCount; place++) {
                if (jobs.get(place, JOB_HEAT) == heat) {
                    count += countBilletsOfJob(place, PRESS);
                }
            }
            return count;
        }

        private int lackOfHeat(int heat) {
            int lack = 0;
            for (int place = 0; place < jobCount; place++) {
                if (jobs.get(place, JOB_HEAT) == heat) {
                    lack += lackOf(place);
                }
            }
            return lack;
        }

        int jobProperty(int place, int what) {
            return what == JOB_REASON ? reasonToWait(place) : jobs.get(place, what);
        }

        private int reasonToWait(int place) {
            int number = jobs.get(place, JOB_NUMBER);
            int die = jobs.get(place, JOB_DIE);
            int onPress = billets.get(PRESS, BILLET_JOB);
            if (onPress == number) {
                return 0;
            }
            if (isBeingGround(die)) {
                return 1;
            }
            if (isWornOut(die)) {
                return 2;
            }
            boolean hasNoStock = heats.get(jobs.get(place, JOB_HEAT), HEAT_STOCK) <= 0;
            if (hasNoStock && countBilletsOfJob(place, FURNACE_PLACES - 1) == 0) {
                return 3;
            }
            if (hottestReady(place) == NONE) {
                return 4;
            }
            return onPress != NONE ? 5 : 6;
        }

        int billetProperty(int spot, int what) {
            return billets.get(spot, BILLET_JOB) == NONE ? NONE : billets.get(spot, what);
        }

        int dieBeingGround() {
            for (int die = 0; die < DIES; die++) {
                if (dies.get(die, DIE_TO_GO) > 0) {
                    return die;
                }
            }
            return NONE;
        }

        boolean isBeingGround(int die) {
            return dies.get(die, DIE_TO_GO) > 0;
        }

        private boolean isWornOut(int die) {
            return dies.get(die, DIE_WEAR) >= dies.get(die, DIE_LIMIT);
        }

        private boolean canForge(int die) {
            return dies.get(die, DIE_TO_GO) <= 0 && dies.get(die, DIE_WEAR) < dies.get(die, DIE_LIMIT);
        }

        private int countBilletsOfJob(int place, int lastSpot) {
            int number = jobs.get(place, JOB_NUMBER);
            int count = 0;
            for (int spot = 0; spot <= lastSpot; spot++) {
                if (billets.get(spot, BILLET_JOB) == number) {
                    count++;
                }
            }
            return count;
        }

        private int lackOf(int place) {
            int open = jobs.get(place, JOB_PIECES) - jobs.get(place, JOB_MADE);
            return open - countBilletsOfJob(place, PRESS);
        }

        private int freeSpot() {
            for (int spot = 0; spot < FURNACE_PLACES; spot++) {
                if (billets.get(spot, BILLET_JOB) == NONE) {
                    return spot;
                }
            }
            return NONE;
        }

        /** The spot of the hottest billet of a job that is hot enough for the press, or NONE. */
        private int hottestReady(int place) {
            int number = jobs.get(place, JOB_NUMBER);
            int least = heats.get(jobs.get(place, JOB_HEAT), HEAT_HIGH);
            int found = NONE;
            for (int spot = 0; spot < FURNACE_PLACES; spot++) {
                int degrees = billets.get(spot, BILLET_DEGREES);
                if (billets.get(spot, BILLET_JOB) == number && degrees >= least) {
                    found = spot;
                    // From here on only a hotter one is better, so the lowest of equals stays.
                    least = degrees + 1;
                }
            }
            return found;
        }

        // -- a minute

        void passMinutes(int count) {
            for (int passed = 0; passed < count; passed++) {
                passMinute();
            }
        }

        /** Lets minutes pass until a job is gone; returns how many, NONE if it stays too long. */
        int passUntilGone(int number) {
            for (int passed = 1; passed <= LONGEST_LOOK; passed++) {
                passMinute();
                if (placeOf(number) == NONE) {
                    return passed;
                }
            }
            return NONE;
        }

        private void passMinute() {
            minutes++;
            warmFurnace();
            chargeFurnace();
            int onPress = billets.get(PRESS, BILLET_JOB);
            if (onPress == NONE) {
                loadPress();
            } else {
                workPress(placeOf(onPress));
            }
            tendDies();
        }

        private void warmFurnace() {
            int warming = settings.get(WARMING, 0);
            for (int spot = 0; spot < FURNACE_PLACES; spot++) {
                if (billets.get(spot, BILLET_JOB) != NONE) {
                    int degrees = billets.get(spot, BILLET_DEGREES) + warming;
                    billets.put(spot, BILLET_DEGREES, Math.min(HOTTEST, degrees));
                }
            }
        }

        private void chargeFurnace() {
            int spot = freeSpot();
            if (spot == NONE) {
                return;
            }
            for (int place = 0; place < jobCount; place++) {
                int heat = jobs.get(place, JOB_HEAT);
                if (heats.get(heat, HEAT_STOCK) > 0 && lackOf(place) > 0) {
                    heats.add(heat, HEAT_STOCK, -1);
                    billets.put(spot, BILLET_JOB, jobs.get(place, JOB_NUMBER));
                    billets.put(spot, BILLET_DEGREES, COLDEST);
                    billets.put(spot, BILLET_REHEATS, 0);
                    billets.put(spot, BILLET_BLOWS, dies.get(jobs.get(place, JOB_DIE), DIE_BLOWS));
                    return;
                }
            }
        }

        private void loadPress() {
            for (int place = 0; place < jobCount; place++) {
                if (canForge(jobs.get(place, JOB_DIE))) {
                    int spot = hottestReady(place);
                    if (spot != NONE) {
                        billets.swapRows(spot, PRESS);
                        return;
                    }
                }
            }
        }

        private void workPress(int place) {
            int die = jobs.get(place, JOB_DIE);
            int heat = jobs.get(place, JOB_HEAT);
            int degrees = billets.get(PRESS, BILLET_DEGREES);
            if (!canForge(die) || degrees < heats.get(heat, HEAT_LOW)) {
                sendBack(heat);
                return;
            }
            int missing = Math.max(0, heats.get(heat, HEAT_HIGH) - degrees);
            dies.add(die, DIE_WEAR, 1 + missing / DEGREES_A_WEAR);
            billets.put(PRESS, BILLET_DEGREES, Math.max(COLDEST, degrees - settings.get(COOLING, 0)));
            billets.add(PRESS, BILLET_BLOWS, -1);
            blows++;
            if (billets.get(PRESS, BILLET_BLOWS) <= 0) {
                finishPiece(place);
            }
        }

        private void sendBack(int heat) {
            billets.add(PRESS, BILLET_REHEATS, 1);
            int spot = freeSpot();
            if (spot == NONE || billets.get(PRESS, BILLET_REHEATS) > settings.get(REHEATS, 0)) {
                billets.put(PRESS, BILLET_JOB, NONE);
                heats.add(heat, HEAT_SCRAP, 1);
            } else {
                billets.swapRows(PRESS, spot);
            }
        }

        private void finishPiece(int place) {
            billets.put(PRESS, BILLET_JOB, NONE);
            jobs.add(place, JOB_MADE, 1);
            heats.add(jobs.get(place, JOB_HEAT), HEAT_MADE, 1);
            dies.add(jobs.get(place, JOB_DIE), DIE_MADE, 1);
            if (jobs.get(place, JOB_MADE) >= jobs.get(place, JOB_PIECES)) {
                finishJob(place);
            }
        }

        private void finishJob(int place) {
            int lateBy = minutes - jobs.get(place, JOB_DUE);
            if (lateBy > 0) {
                lateJobs++;
                lateMinutes += lateBy;
            }
            goneJobs++;
            removeJob(place);
        }

        void beginGrinding(int die) {
            dies.put(die, DIE_TO_GO, settings.get(GRINDING, 0));
        }

        private void tendDies() {
            int ground = dieBeingGround();
            if (ground != NONE) {
                dies.add(ground, DIE_TO_GO, -1);
                if (isBeingGround(ground)) {
                    return;
                }
                dies.put(ground, DIE_WEAR, 0);
                dies.put(ground, DIE_LIMIT, Math.max(LEAST_LIMIT, dies.get(ground, DIE_LIMIT) - LIMIT_LOSS));
                dies.add(ground, DIE_GROUND, 1);
            }
            for (int die = 0; die < DIES; die++) {
                if (isWornOut(die)) {
                    beginGrinding(die);
                    return;
                }
            }
        }
    }

    /** The buffer, and the reading of jobs from it. */
    private static final class JobText {
        private static final int ROOM = 60;

        // What the next character belongs to.
        private static final int FIRST_OF_PIECES = 0;
        private static final int MORE_PIECES = 1;
        private static final int DIE = 2;
        private static final int BEHIND_DIE = 3;
        private static final int HEAT = 4;
        private static final int BEHIND_HEAT = 5;
        private static final int FIRST_OF_DUE = 6;
        private static final int MORE_DUE = 7;
        private static final int BEHIND_RUSH = 8;

        private final char[] codes;
        int length;
        private int position;
        private int expected;
        int pieces;
        int die;
        int heat;
        int due;
        boolean isRush;

        JobText() {
            codes = new char[ROOM];
        }

        boolean isFull() {
            return length >= codes.length;
        }

        int put(int code) {
            if (length >= 0 && length < codes.length) {
                codes[length] = (char) code;
                length++;
            }
            return length;
        }

        int empty() {
            int before = length;
            length = 0;
            return before;
        }

        int codeAt(int index) {
            return index >= 0 && index < codes.length ? codes[index] : 0;
        }

        void begin() {
            position = 0;
            expected = FIRST_OF_PIECES;
        }

        int firstWrong() {
            begin();
            for (int index = 0; index < length; index++) {
                if (!read(codeAt(index))) {
                    return index;
                }
            }
            return length;
        }

        boolean isComplete() {
            return firstWrong() == length
                && (expected == BEHIND_HEAT || expected == MORE_DUE || expected == BEHIND_RUSH);
        }

        int countParts() {
            int parts = 1;
            for (int index = 0; index < length; index++) {
                if (codeAt(index) == ';') {
                    parts++;
                }
            }
            return parts;
        }

        /** Reads the next part of a complete text; its fields stay until the one behind it is read. */
        void readPart() {
            for (boolean isOpen = true; isOpen && position < length; position++) {
                read(codeAt(position));
                isOpen = codeAt(position) != ';';
            }
        }

        /** Reads a character, and returns whether it may stand here. */
        private boolean read(int code) {
            int digit = code >= '0' && code <= '9' ? code - '0' : NONE;
            switch (expected) {
                case FIRST_OF_PIECES:
                    beginPart(digit);
                    return digit > 0;
                case MORE_PIECES:
                    if (code == 'd') {
                        expected = DIE;
                        return true;
                    }
                    pieces = 10 * pieces + digit;
                    return digit != NONE && pieces <= MOST_PIECES;
                case DIE:
                    die = digit;
                    expected = BEHIND_DIE;
                    return digit != NONE && digit < DIES;
                case BEHIND_DIE:
                    expected = HEAT;
                    return code == 'h';
                case HEAT:
                    heat = digit;
                    expected = BEHIND_HEAT;
                    return digit != NONE && digit < HEATS;
                case BEHIND_HEAT:
                    if (code == '@') {
                        expected = FIRST_OF_DUE;
                        return true;
                    }
                    return readEnd(code);
                case FIRST_OF_DUE:
                    due = digit;
                    expected = MORE_DUE;
                    return digit != NONE;
                case MORE_DUE:
                    return digit == NONE ? readEnd(code) : readMoreDue(digit);
                default:
                    return readSeparator(code);
            }
        }

        private void beginPart(int firstDigit) {
            pieces = firstDigit;
            due = LAST_DUE;
            isRush = false;
            expected = MORE_PIECES;
        }

        private boolean readMoreDue(int digit) {
            boolean hasLeadingZero = due == 0;
            due = 10 * due + digit;
            return !hasLeadingZero && due <= LAST_DUE;
        }

        private boolean readEnd(int code) {
            if (code == '!') {
                isRush = true;
                expected = BEHIND_RUSH;
                return true;
            }
            return readSeparator(code);
        }

        private boolean readSeparator(int code) {
            expected = FIRST_OF_PIECES;
            return code == ';';
        }
    }
}
