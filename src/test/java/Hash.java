import java.util.ArrayList;
import java.util.List;

/** The hash of promise 27, made of what the other calls of the face answer. */
final class Hash {
    private Hash() {
    }

    /** The hash of all that the face tells, taken from the list of promise 27. */
    static long of(ForgeHeats shop, String buffer) {
        List<Long> values = new ArrayList<>();
        addRow(values, 12, what -> shop.count(what));
        addRow(values, 4, what -> shop.setting(what));
        for (int number = 0; number < 4; number++) {
            int heat = number;
            addRow(values, 7, what -> shop.heat(heat, what));
        }
        for (int number = 0; number < 5; number++) {
            int die = number;
            addRow(values, 6, what -> shop.dieOf(die, what));
        }
        for (int number = 0; number < 7; number++) {
            int place = number;
            addRow(values, 4, what -> shop.billet(place, what));
        }
        for (int number = 0; number < shop.count(1); number++) {
            int place = number;
            addRow(values, 8, what -> shop.jobOf(place, what));
            values.add((long) shop.doneIn(shop.jobOf(place, 0)));
            values.add((long) shop.ifRush(shop.jobOf(place, 0)));
        }
        addRow(values, 5, what -> shop.ifPassed(30, what));
        values.add((long) shop.bestReheats(40));
        values.add(Double.doubleToLongBits(shop.saved()));
        values.add((long) buffer.length());
        addRow(values, buffer.length(), buffer::charAt);
        long hash = 2857L;
        for (long value : values) {
            hash = 31L * hash + value;
        }
        return hash;
    }

    private interface Row {
        int at(int what);
    }

    private static void addRow(List<Long> values, int length, Row row) {
        for (int what = 0; what < length; what++) {
            values.add((long) row.at(what));
        }
    }
}
