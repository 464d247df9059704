import java.util.ArrayList;
import java.util.List;
import java.util.Random;

/**
 * Long runs of calls with a fixed seed, each answer compared with that of a
 * slow model which keeps nothing but the list of changes.
 */
public final class ModelTest {
    private static final int NONE = BitemporalTable.NONE;
    private static final int FULL = BitemporalTable.FULL;
    private static final int BAD = BitemporalTable.BAD;

    private static int wrong = 0;

    private static final class Model {
        final List<int[]> changes = new ArrayList<>();
        int now = 0;

        int tick() {
            return now == 60 ? FULL : ++now;
        }

        int said(int t, int k, int day) {
            int said = NONE;
            for (int[] c : changes) {
                if (c[0] <= t && c[1] == k && c[2] <= day && day < c[3]) {
                    said = c[4];
                }
            }
            return said;
        }

        int change(int k, int from, int to, int said) {
            if (k < 0 || k > 3 || from < 0 || from >= to || to > 16) {
                return BAD;
            }
            if (changes.size() == 50) {
                return FULL;
            }
            int changed = 0;
            for (int day = from; day < to; day++) {
                changed += said(now, k, day) != said ? 1 : 0;
            }
            changes.add(new int[] {now, k, from, to, said});
            return changed;
        }

        int say(int k, int from, int to, int v) {
            return v < 0 || v > 9 ? BAD : change(k, from, to, v);
        }

        boolean known(int t, int k) {
            return t >= 0 && t <= now && k >= 0 && k <= 3;
        }

        int at(int t, int k, int day) {
            return known(t, k) && day >= 0 && day <= 15 ? said(t, k, day) : BAD;
        }

        int[] row(int t, int k) {
            int[] row = new int[16];
            for (int day = 0; day < 16; day++) {
                row[day] = said(t, k, day);
            }
            return row;
        }

        /** The spans of one value that cannot be made longer, earliest first. */
        List<int[]> periods(int t, int k) {
            List<int[]> found = new ArrayList<>();
            if (!known(t, k)) {
                return found;
            }
            int[] row = row(t, k);
            for (int from = 0; from < 16; from++) {
                for (int to = from + 1; to <= 16; to++) {
                    boolean longer = from > 0 && oneValue(row, from - 1, to) || to < 16 && oneValue(row, from, to + 1);
                    if (oneValue(row, from, to) && !longer) {
                        found.add(new int[] {from, to});
                    }
                }
            }
            return found;
        }

        static boolean oneValue(int[] row, int from, int to) {
            for (int day = from; day < to; day++) {
                if (row[day] == NONE || row[day] != row[from]) {
                    return false;
                }
            }
            return true;
        }

        int period(int t, int k, int i, int side) {
            List<int[]> all = periods(t, k);
            return i >= 0 && i < all.size() ? all.get(i)[side] : NONE;
        }

        List<Integer> eras(int k, int day) {
            List<Integer> found = new ArrayList<>();
            for (int t = 0; known(0, k) && day >= 0 && day <= 15 && t <= now; t++) {
                if (t == 0 || said(t, k, day) != said(t - 1, k, day)) {
                    found.add(t);
                }
            }
            return found;
        }

        int eraFrom(int k, int day, int i) {
            List<Integer> all = eras(k, day);
            return i >= 0 && i < all.size() ? all.get(i) : NONE;
        }

        int difference(int t, int u, int k) {
            if (!known(t, k) || !known(u, k)) {
                return BAD;
            }
            int found = 0;
            for (int day = 0; day < 16; day++) {
                found += said(t, k, day) != said(u, k, day) ? 1 : 0;
            }
            return found;
        }

        int count(int t, int v) {
            int found = 0;
            for (int k = 0; known(t, k) && v >= 0 && v <= 9; k++) {
                for (int day = 0; day < 16; day++) {
                    found += said(t, k, day) == v ? 1 : 0;
                }
            }
            return found;
        }

        int agree(int t, int k, int m) {
            int days = 0;
            for (int day = 0; known(t, k) && known(t, m) && day < 16; day++) {
                int said = said(t, k, day);
                days += said != NONE && said == said(t, m, day) ? 1 << day : 0;
            }
            return days;
        }

        /** Tries every set of rectangles that the promise allows; for few ticks only. */
        int fewestRectangles(int k) {
            if (!known(0, k)) {
                return 0;
            }
            int[][] rows = new int[now + 1][];
            for (int t = 0; t <= now; t++) {
                rows[t] = row(t, k);
            }
            return fewest(rows, new boolean[now + 1][16], 0);
        }

        private static int fewest(int[][] rows, boolean[][] covered, int start) {
            int point = start;
            while (point < rows.length * 16 && (rows[point / 16][point % 16] == NONE || covered[point / 16][point % 16])) {
                point++;
            }
            if (point == rows.length * 16) {
                return 0;
            }
            int best = 1_000_000;
            int t = point / 16;
            int from = point % 16;
            // The first uncovered point is the first corner of its rectangle.
            for (int until = t + 1; until <= rows.length; until++) {
                for (int to = from + 1; to <= 16; to++) {
                    if (allowed(rows, covered, new int[] {t, until, from, to})) {
                        cover(covered, t, until, from, to, true);
                        best = Math.min(best, 1 + fewest(rows, covered, point + 1));
                        cover(covered, t, until, from, to, false);
                    }
                }
            }
            return best;
        }

        private static boolean allowed(int[][] rows, boolean[][] covered, int[] r) {
            int value = rows[r[0]][r[2]];
            for (int t = r[0]; t < r[1]; t++) {
                for (int day = r[2]; day < r[3]; day++) {
                    if (covered[t][day] || rows[t][day] != value) {
                        return false;
                    }
                }
                int first = r[2];
                int after = r[3];
                while (first > 0 && rows[t][first - 1] == value) {
                    first--;
                }
                while (after < 16 && rows[t][after] == value) {
                    after++;
                }
                if (after - first != r[3] - r[2]) {
                    return false;
                }
            }
            return true;
        }

        private static void cover(boolean[][] covered, int t, int until, int from, int to, boolean with) {
            for (int i = t; i < until; i++) {
                for (int day = from; day < to; day++) {
                    covered[i][day] = with;
                }
            }
        }

        /** The first tick of every longest run of ticks at which the same period stands. */
        int runsOfPeriods(int k) {
            int found = 0;
            for (int t = 0; known(0, k) && t <= now; t++) {
                for (int[] p : periods(t, k)) {
                    found += t > 0 && stands(t - 1, k, p, said(t, k, p[0])) ? 0 : 1;
                }
            }
            return found;
        }

        private boolean stands(int t, int k, int[] p, int value) {
            for (int[] q : periods(t, k)) {
                if (q[0] == p[0] && q[1] == p[1] && said(t, k, q[0]) == value) {
                    return true;
                }
            }
            return false;
        }
    }

    private static void due(String call, int got, int want) {
        if (got != want) {
            wrong++;
            System.out.println(call + " answered " + got + ", due is " + want);
        }
    }

    /** Mostly from 0 to below n, at times just outside, seldom far outside. */
    private static int around(Random r, int n) {
        int kind = r.nextInt(60);
        return kind == 0 ? r.nextInt() : kind == 1 ? -1 : kind == 2 ? n : r.nextInt(n);
    }

    private static void change(String where, Random r, BitemporalTable x, Model m, int values) {
        int k = r.nextInt(3) == 0 ? around(r, 4) : 0;
        int one = around(r, 17);
        int other = around(r, 17);
        boolean swap = one > other && r.nextInt(20) != 0;
        int from = swap ? other : one;
        int to = swap ? one : other;
        if (r.nextInt(4) == 0) {
            due(where + "unsay(" + k + ", " + from + ", " + to + ")", x.unsay(k, from, to), m.change(k, from, to, NONE));
        } else {
            int v = r.nextInt(30) == 0 ? around(r, 10) : r.nextInt(values);
            due(where + "say(" + k + ", " + from + ", " + to + ", " + v + ")", x.say(k, from, to, v), m.say(k, from, to, v));
        }
    }

    private static void askOfTicks(String where, Random r, BitemporalTable x, Model m) {
        int t = around(r, m.now + 1);
        int u = around(r, m.now + 1);
        int k = around(r, 4);
        int o = around(r, 4);
        int v = around(r, 10);
        switch (r.nextInt(7)) {
            case 0: { int day = around(r, 16);
                due(where + "at(" + t + ", " + k + ", " + day + ")", x.at(t, k, day), m.at(t, k, day)); break; }
            case 1: due(where + "periods(" + t + ", " + k + ")", x.periods(t, k), m.periods(t, k).size()); break;
            case 2: { int i = around(r, 6);
                due(where + "periodFrom(" + t + ", " + k + ", " + i + ")", x.periodFrom(t, k, i), m.period(t, k, i, 0)); break; }
            case 3: { int i = around(r, 6);
                due(where + "periodTo(" + t + ", " + k + ", " + i + ")", x.periodTo(t, k, i), m.period(t, k, i, 1)); break; }
            case 4: due(where + "difference(" + t + ", " + u + ", " + k + ")", x.difference(t, u, k), m.difference(t, u, k)); break;
            case 5: due(where + "count(" + t + ", " + v + ")", x.count(t, v), m.count(t, v)); break;
            default: due(where + "agree(" + t + ", " + k + ", " + o + ")", x.agree(t, k, o), m.agree(t, k, o)); break;
        }
    }

    private static void askOfKeys(String where, Random r, BitemporalTable x, Model m) {
        int k = around(r, 4);
        int day = around(r, 16);
        int i = around(r, 6);
        switch (r.nextInt(4)) {
            case 0: due(where + "eras(" + k + ", " + day + ")", x.eras(k, day), m.eras(k, day).size()); break;
            case 1: due(where + "eraFrom(" + k + ", " + day + ", " + i + ")", x.eraFrom(k, day, i), m.eraFrom(k, day, i)); break;
            case 2: due(where + "now()", x.now(), m.now); break;
            default: due(where + "rectangles(" + k + ")", x.rectangles(k), m.runsOfPeriods(k)); break;
        }
    }

    private static void longRun(int seed) {
        Random r = new Random(seed);
        BitemporalTable x = new BitemporalTable();
        Model m = new Model();
        int values = 1 + r.nextInt(10);
        for (int call = 0; call < 512; call++) {
            String where = "seed " + seed + ", call " + call + ": ";
            int kind = r.nextInt(20);
            if (kind < 3) {
                due(where + "tick()", x.tick(), m.tick());
            } else if (kind < 6) {
                change(where, r, x, m, values);
            } else if (kind < 15) {
                askOfTicks(where, r, x, m);
            } else {
                askOfKeys(where, r, x, m);
            }
        }
    }

    /** Few ticks, so that every choice of rectangles can be tried. */
    private static void shortRun(int seed) {
        Random r = new Random(seed);
        BitemporalTable x = new BitemporalTable();
        Model m = new Model();
        int values = 1 + r.nextInt(3);
        for (int t = 0; t <= 3; t++) {
            for (int i = r.nextInt(4); i > 0; i--) {
                change("short run, seed " + seed + ": ", r, x, m, values);
            }
            for (int k = -1; k <= 4; k++) {
                due("short run, seed " + seed + ", tick " + t + ": rectangles(" + k + ")", x.rectangles(k), m.fewestRectangles(k));
            }
            x.tick();
            m.tick();
        }
    }

    public static void main(String[] args) {
        for (int seed = 0; seed < 200; seed++) {
            longRun(seed);
        }
        for (int seed = 0; seed < 300; seed++) {
            shortRun(seed);
        }
        System.out.println(wrong == 0 ? "all answers are as due" : wrong + " answers are not as due");
        if (wrong != 0) {
            System.exit(1);
        }
    }
}
