/** A table that knows what was true when, and when that was known. */
public final class BitemporalTable {
    public static final int NONE = -1;
    public static final int FULL = -2;
    public static final int BAD = -3;

    private static final int KEYS = 4;
    private static final int DAYS = 16;
    private static final int VALUES = 10;
    private static final int LAST_TICK = 60;
    private static final int MOST_CHANGES = 50;

    private static final int CELLS_OF_A_TICK = KEYS * DAYS;
    private static final int ALL_CELLS = (LAST_TICK + 1) * CELLS_OF_A_TICK;

    // Every tick has its own copy of the table, so that a change at the
    // present tick cannot reach what was said at an earlier one.
    private final int[] cells = new int[ALL_CELLS];
    private int present;
    private int changes;

    public BitemporalTable() {
        for (int cell = 0; cell < CELLS_OF_A_TICK; cell++) {
            cells[cell] = NONE;
        }
        present = 0;
        changes = 0;
    }

    public int tick() {
        if (present >= LAST_TICK) {
            return FULL;
        }
        int before = present * CELLS_OF_A_TICK;
        int after = before + CELLS_OF_A_TICK;
        for (int i = 0; i < CELLS_OF_A_TICK; i++) {
            cells[after + i] = cells[before + i];
        }
        present++;
        return present;
    }

    public int now() {
        return present;
    }

    public int say(int k, int from, int to, int v) {
        if (!isValue(v)) {
            return BAD;
        }
        return change(k, from, to, v);
    }

    public int unsay(int k, int from, int to) {
        return change(k, from, to, NONE);
    }

    public int at(int t, int k, int day) {
        if (!isTick(t) || !isKey(k) || !isDay(day)) {
            return BAD;
        }
        return cells[rowOf(t, k) + day];
    }

    public int periods(int t, int k) {
        if (!isTick(t) || !isKey(k)) {
            return 0;
        }
        int row = rowOf(t, k);
        int found = 0;
        for (int day = 0; day < DAYS; day++) {
            if (periodStarts(row, day)) {
                found++;
            }
        }
        return found;
    }

    public int periodFrom(int t, int k, int i) {
        if (!isTick(t) || !isKey(k)) {
            return NONE;
        }
        int row = rowOf(t, k);
        return firstDay(row, i);
    }

    public int periodTo(int t, int k, int i) {
        if (!isTick(t) || !isKey(k)) {
            return NONE;
        }
        int row = rowOf(t, k);
        int first = firstDay(row, i);
        if (first == NONE) {
            return NONE;
        }
        return dayAfter(row, first);
    }

    public int eras(int k, int day) {
        if (!isKey(k) || !isDay(day)) {
            return 0;
        }
        int found = 0;
        for (int t = 0; t <= present; t++) {
            if (eraStarts(t, k, day)) {
                found++;
            }
        }
        return found;
    }

    public int eraFrom(int k, int day, int i) {
        if (!isKey(k) || !isDay(day)) {
            return NONE;
        }
        int found = 0;
        for (int t = 0; t <= present; t++) {
            if (eraStarts(t, k, day)) {
                if (found == i) {
                    return t;
                }
                found++;
            }
        }
        return NONE;
    }

    public int difference(int t, int u, int k) {
        if (!isTick(t) || !isTick(u) || !isKey(k)) {
            return BAD;
        }
        int one = rowOf(t, k);
        int other = rowOf(u, k);
        int found = 0;
        for (int day = 0; day < DAYS; day++) {
            if (cells[one + day] != cells[other + day]) {
                found++;
            }
        }
        return found;
    }

    public int count(int t, int v) {
        if (!isTick(t) || !isValue(v)) {
            return 0;
        }
        int start = t * CELLS_OF_A_TICK;
        int found = 0;
        for (int i = 0; i < CELLS_OF_A_TICK; i++) {
            if (cells[start + i] == v) {
                found++;
            }
        }
        return found;
    }

    public int agree(int t, int k, int m) {
        if (!isTick(t) || !isKey(k) || !isKey(m)) {
            return 0;
        }
        int one = rowOf(t, k);
        int other = rowOf(t, m);
        int days = 0;
        for (int day = 0; day < DAYS; day++) {
            int said = cells[one + day];
            // Two keys that both say nothing do not say the same value.
            if (said != NONE && said == cells[other + day]) {
                days |= 1 << day;
            }
        }
        return days;
    }

    // A rectangle must be a whole period at each of its ticks, so the fewest
    // rectangles are as many as the periods that did not stand, with the same
    // days and value, at the tick before.
    public int rectangles(int k) {
        if (!isKey(k)) {
            return 0;
        }
        int found = 0;
        for (int t = 0; t <= present; t++) {
            int row = rowOf(t, k);
            for (int day = 0; day < DAYS; day++) {
                if (periodStarts(row, day) && !stoodBefore(t, k, day)) {
                    found++;
                }
            }
        }
        return found;
    }

    private int change(int k, int from, int to, int said) {
        if (!isKey(k) || !isSpan(from, to)) {
            return BAD;
        }
        if (changes >= MOST_CHANGES) {
            return FULL;
        }
        changes++;
        int row = rowOf(present, k);
        int changed = 0;
        for (int day = from; day < to; day++) {
            if (cells[row + day] != said) {
                cells[row + day] = said;
                changed++;
            }
        }
        return changed;
    }

    private boolean isTick(int t) {
        return t >= 0 && t <= present;
    }

    private static boolean isKey(int k) {
        return k >= 0 && k < KEYS;
    }

    private static boolean isDay(int day) {
        return day >= 0 && day < DAYS;
    }

    private static boolean isValue(int v) {
        return v >= 0 && v < VALUES;
    }

    private static boolean isSpan(int from, int to) {
        return from >= 0 && from < to && to <= DAYS;
    }

    private static int rowOf(int t, int k) {
        return t * CELLS_OF_A_TICK + k * DAYS;
    }

    private boolean periodStarts(int row, int day) {
        int said = cells[row + day];
        if (said == NONE) {
            return false;
        }
        return day == 0 || cells[row + day - 1] != said;
    }

    private int firstDay(int row, int i) {
        int found = 0;
        for (int day = 0; day < DAYS; day++) {
            if (periodStarts(row, day)) {
                if (found == i) {
                    return day;
                }
                found++;
            }
        }
        return NONE;
    }

    private int dayAfter(int row, int first) {
        int said = cells[row + first];
        for (int day = first + 1; day < DAYS; day++) {
            if (cells[row + day] != said) {
                return day;
            }
        }
        return DAYS;
    }

    private boolean eraStarts(int t, int k, int day) {
        if (t == 0) {
            return true;
        }
        int row = rowOf(t, k);
        return cells[row + day] != cells[row - CELLS_OF_A_TICK + day];
    }

    private boolean stoodBefore(int t, int k, int first) {
        if (t == 0) {
            return false;
        }
        int row = rowOf(t, k);
        int before = row - CELLS_OF_A_TICK;
        return periodStarts(before, first)
            && cells[before + first] == cells[row + first]
            && dayAfter(before, first) == dayAfter(row, first);
    }
}
