/** Each promise of the document: ordinary inputs, its edges, wrong inputs. */
public final class PromisesTest {
    private static final int NONE = BitemporalTable.NONE;
    private static final int FULL = BitemporalTable.FULL;
    private static final int BAD = BitemporalTable.BAD;
    private static final int LEAST = Integer.MIN_VALUE;
    private static final int MOST = Integer.MAX_VALUE;
    private static final int[] NO_KEYS = {-1, 4, LEAST, MOST};
    private static final int[] NO_DAYS = {-1, 16, LEAST, MOST};
    private static final int[] NO_VALUES = {-1, -2, -3, 10, LEAST, MOST};
    private static final int[][] NO_SPANS = {
        {0, 0}, {5, 5}, {15, 15}, {16, 16}, {3, 2}, {16, 0}, {-1, 2}, {-1, 16}, {-2, -1}, {0, 17},
        {15, 17}, {16, 17}, {LEAST, 1}, {0, LEAST}, {0, MOST}, {MOST, LEAST}, {LEAST, MOST}, {MOST, MOST}};

    private static int wrong = 0;
    private static String promise = "";

    private static void due(String call, int got, int want) {
        if (got != want) {
            wrong++;
            System.out.println(promise + ": " + call + " answered " + got + ", due is " + want);
        }
    }

    /** What key k says at tick t, a character for each day: a digit, or '.' for nothing. */
    private static void dueRow(BitemporalTable x, int t, int k, String want) {
        StringBuilder got = new StringBuilder();
        for (int day = 0; day < 16; day++) {
            int said = x.at(t, k, day);
            got.append(said == NONE ? "." : said >= 0 && said <= 9 ? "" + said : "?");
        }
        if (!got.toString().equals(want)) {
            wrong++;
            System.out.println(promise + ": key " + k + " at tick " + t + " says " + got + ", due is " + want);
        }
    }

    private static int[] ticksThatAreNot(BitemporalTable x) {
        return new int[] {-1, x.now() + 1, 61, LEAST, MOST};
    }

    private static BitemporalTable tickedTo(int t) {
        BitemporalTable x = new BitemporalTable();
        for (int i = 0; i < t; i++) {
            x.tick();
        }
        return x;
    }

    private static void aNewObject() {
        promise = "1 a new object";
        BitemporalTable x = new BitemporalTable();
        due("now()", x.now(), 0);
        for (int k = 0; k < 4; k++) {
            dueRow(x, 0, k, "................");
            due("periods(0, k)", x.periods(0, k), 0);
            due("rectangles(k)", x.rectangles(k), 0);
            due("eras(k, 15)", x.eras(k, 15), 1);
        }
        BitemporalTable y = new BitemporalTable();
        x.say(0, 0, 16, 1);
        x.tick();
        due("now() of another object", y.now(), 0);
        dueRow(y, 0, 0, "................");
    }

    private static void ticking() {
        promise = "2 tick";
        BitemporalTable x = new BitemporalTable();
        x.say(2, 3, 5, 7);
        for (int t = 1; t <= 60; t++) {
            due("tick()", x.tick(), t);
            due("at(t, 2, 4)", x.at(t, 2, 4), 7);
            due("at(t, 2, 5)", x.at(t, 2, 5), NONE);
        }
        x.say(1, 0, 1, 3);
        for (int i = 0; i < 3; i++) {
            due("tick() at tick 60", x.tick(), FULL);
            due("now() after FULL", x.now(), 60);
            due("at(61, 2, 4)", x.at(61, 2, 4), BAD);
        }
        dueRow(x, 60, 2, "...77...........");
        dueRow(x, 60, 1, "3...............");
        dueRow(x, 59, 1, "................");
        due("say after FULL", x.say(1, 0, 2, 3), 1);
    }

    private static void tickTakesAllKeysAlong() {
        promise = "2 tick";
        BitemporalTable x = new BitemporalTable();
        for (int k = 0; k < 4; k++) {
            x.say(k, k, 16 - k, k);
        }
        x.tick();
        for (int t = 0; t <= 1; t++) {
            dueRow(x, t, 0, "0000000000000000");
            dueRow(x, t, 1, ".11111111111111.");
            dueRow(x, t, 2, "..222222222222..");
            dueRow(x, t, 3, "...3333333333...");
        }
    }

    private static void theTime() {
        promise = "3 now";
        BitemporalTable x = new BitemporalTable();
        due("now()", x.now(), 0);
        due("now() again", x.now(), 0);
        x.say(0, 0, 1, 1);
        x.unsay(0, 0, 1);
        x.say(9, 0, 1, 1);
        due("now() after changes", x.now(), 0);
        for (int t = 1; t <= 60; t++) {
            x.tick();
            due("now()", x.now(), t);
        }
    }

    private static void saying() {
        promise = "4 say";
        BitemporalTable x = new BitemporalTable();
        due("say(0, 2, 10, 5)", x.say(0, 2, 10, 5), 8);
        due("the same again", x.say(0, 2, 10, 5), 0);
        due("say(0, 4, 6, 7)", x.say(0, 4, 6, 7), 2);
        due("say(0, 0, 16, 5)", x.say(0, 0, 16, 5), 10);
        due("say(0, 15, 16, 0)", x.say(0, 15, 16, 0), 1);
        due("say(0, 0, 1, 9)", x.say(0, 0, 1, 9), 1);
        dueRow(x, 0, 0, "9555555555555550");
        due("say(3, 0, 16, 0)", x.say(3, 0, 16, 0), 16);
        dueRow(x, 0, 3, "0000000000000000");
        dueRow(x, 0, 1, "................");
        dueRow(x, 0, 2, "................");
        x.tick();
        due("say at tick 1", x.say(0, 0, 3, 5), 1);
        due("say back at tick 1", x.say(0, 0, 1, 9), 1);
        due("say another at tick 1", x.say(0, 7, 9, 1), 2);
        dueRow(x, 0, 0, "9555555555555550");
        dueRow(x, 1, 0, "9555555115555550");
        x.tick();
        dueRow(x, 2, 0, "9555555115555550");
    }

    private static void unsaying() {
        promise = "5 unsay";
        BitemporalTable x = new BitemporalTable();
        due("unsay of nothing", x.unsay(1, 0, 16), 0);
        x.say(1, 2, 6, 0);
        x.say(1, 8, 10, 4);
        x.say(2, 0, 16, 6);
        due("unsay(1, 5, 9)", x.unsay(1, 5, 9), 2);
        due("the same again", x.unsay(1, 5, 9), 0);
        dueRow(x, 0, 1, "..000....4......");
        dueRow(x, 0, 2, "6666666666666666");
        x.tick();
        due("unsay(1, 0, 16)", x.unsay(1, 0, 16), 4);
        due("unsay(2, 15, 16)", x.unsay(2, 15, 16), 1);
        due("unsay(2, 0, 1)", x.unsay(2, 0, 1), 1);
        dueRow(x, 0, 1, "..000....4......");
        dueRow(x, 1, 1, "................");
        dueRow(x, 0, 2, "6666666666666666");
        dueRow(x, 1, 2, ".66666666666666.");
    }

    private static void dueBadChanges(BitemporalTable x) {
        for (int k : NO_KEYS) {
            due("say(" + k + ", 0, 1, 1)", x.say(k, 0, 1, 1), BAD);
            due("unsay(" + k + ", 0, 1)", x.unsay(k, 0, 1), BAD);
        }
        for (int[] span : NO_SPANS) {
            due("say(0, " + span[0] + ", " + span[1] + ", 1)", x.say(0, span[0], span[1], 1), BAD);
            due("unsay(0, " + span[0] + ", " + span[1] + ")", x.unsay(0, span[0], span[1]), BAD);
        }
        for (int v : NO_VALUES) {
            due("say(0, 0, 1, " + v + ")", x.say(0, 0, 1, v), BAD);
        }
    }

    private static void badChanges() {
        promise = "4, 5 and 16, BAD";
        BitemporalTable x = new BitemporalTable();
        x.say(0, 1, 3, 8);
        // More than 50 calls that answer BAD: none of them may count.
        dueBadChanges(x);
        dueRow(x, 0, 0, ".88.............");
        for (int k = 1; k < 4; k++) {
            dueRow(x, 0, k, "................");
        }
        for (int i = 0; i < 49; i++) {
            due("change " + (i + 2), x.unsay(3, 0, 1), 0);
        }
        due("change 51", x.unsay(3, 0, 1), FULL);
    }

    private static void fullChanges() {
        promise = "4, 5 and 16, FULL";
        BitemporalTable x = new BitemporalTable();
        for (int i = 0; i < 25; i++) {
            due("say", x.say(0, 0, 16, i % 2), 16);
            due("unsay", x.unsay(0, 0, 16), 16);
        }
        x.tick();
        for (int i = 0; i < 3; i++) {
            due("say after 50 changes", x.say(0, 0, 16, 1), FULL);
            due("say that would change nothing", x.say(0, 0, 16, 1), FULL);
            due("unsay after 50 changes", x.unsay(3, 0, 16), FULL);
        }
        dueBadChanges(x);
        dueRow(x, 1, 0, "................");
        due("tick() after 50 changes", x.tick(), 2);
        due("say at a later tick", x.say(0, 0, 16, 1), FULL);
        dueRow(x, 2, 0, "................");
        due("rectangles(0)", x.rectangles(0), 0);
    }

    private static void changesThatChangeNothingCount() {
        promise = "4 and 5, changes of no day";
        BitemporalTable x = new BitemporalTable();
        x.say(0, 0, 1, 1);
        for (int i = 0; i < 49; i++) {
            due("change " + (i + 2), i % 2 == 0 ? x.say(0, 0, 1, 1) : x.unsay(1, 0, 1), 0);
        }
        due("say, change 51", x.say(0, 0, 1, 2), FULL);
        due("unsay, change 51", x.unsay(0, 0, 1), FULL);
        due("at(0, 0, 0)", x.at(0, 0, 0), 1);
    }

    private static void earlierTicksStay() {
        promise = "4 and 5, earlier ticks";
        BitemporalTable x = new BitemporalTable();
        for (int t = 0; t < 10; t++) {
            x.say(t % 4, 0, 16, t);
            x.tick();
            x.unsay(t % 4, 0, 8);
        }
        dueRow(x, 0, 0, "0000000000000000");
        dueRow(x, 1, 0, "........00000000");
        dueRow(x, 3, 0, "........00000000");
        dueRow(x, 4, 0, "4444444444444444");
        dueRow(x, 5, 0, "........44444444");
        dueRow(x, 8, 0, "8888888888888888");
        dueRow(x, 10, 0, "........88888888");
        dueRow(x, 2, 3, "................");
        dueRow(x, 3, 3, "3333333333333333");
        dueRow(x, 4, 3, "........33333333");
    }

    private static void asking() {
        promise = "6 at";
        BitemporalTable x = new BitemporalTable();
        x.say(3, 15, 16, 0);
        x.tick();
        x.say(3, 15, 16, 9);
        x.say(0, 0, 1, 4);
        due("at(0, 3, 15)", x.at(0, 3, 15), 0);
        due("at(1, 3, 15)", x.at(1, 3, 15), 9);
        due("at(1, 3, 14)", x.at(1, 3, 14), NONE);
        due("at(0, 0, 0)", x.at(0, 0, 0), NONE);
        due("at(1, 0, 0)", x.at(1, 0, 0), 4);
        for (int t : ticksThatAreNot(x)) {
            due("at(" + t + ", 0, 0)", x.at(t, 0, 0), BAD);
        }
        for (int k : NO_KEYS) {
            due("at(1, " + k + ", 0)", x.at(1, k, 0), BAD);
        }
        for (int day : NO_DAYS) {
            due("at(1, 0, " + day + ")", x.at(1, 0, day), BAD);
        }
        x.tick();
        due("at(2, 3, 15)", x.at(2, 3, 15), 9);
    }

    private static void duePeriods(BitemporalTable x, int t, int k, int... days) {
        int n = days.length / 2;
        due("periods(" + t + ", " + k + ")", x.periods(t, k), n);
        for (int i = 0; i < n; i++) {
            due("periodFrom(" + t + ", " + k + ", " + i + ")", x.periodFrom(t, k, i), days[2 * i]);
            due("periodTo(" + t + ", " + k + ", " + i + ")", x.periodTo(t, k, i), days[2 * i + 1]);
        }
        for (int i : new int[] {n, n + 1, 15, 16, 17, MOST, -1, -2, LEAST}) {
            if (i < 0 || i >= n) {
                due("periodFrom(" + t + ", " + k + ", " + i + ")", x.periodFrom(t, k, i), NONE);
                due("periodTo(" + t + ", " + k + ", " + i + ")", x.periodTo(t, k, i), NONE);
            }
        }
    }

    private static void thePeriods() {
        promise = "7, 8 and 9, periods";
        BitemporalTable x = new BitemporalTable();
        duePeriods(x, 0, 0);
        x.say(0, 0, 3, 5);
        x.say(0, 3, 5, 5);
        duePeriods(x, 0, 0, 0, 5);
        x.say(0, 5, 7, 0);
        x.say(0, 9, 16, 0);
        duePeriods(x, 0, 0, 0, 5, 5, 7, 9, 16);
        duePeriods(x, 0, 1);
        x.tick();
        x.say(0, 7, 9, 0);
        duePeriods(x, 1, 0, 0, 5, 5, 16);
        duePeriods(x, 0, 0, 0, 5, 5, 7, 9, 16);
        x.unsay(0, 0, 16);
        duePeriods(x, 1, 0);
        x.say(0, 0, 16, 1);
        duePeriods(x, 1, 0, 0, 16);
        x.unsay(0, 15, 16);
        x.unsay(0, 0, 1);
        duePeriods(x, 1, 0, 1, 15);
    }

    private static void theMostPeriods() {
        promise = "7, 8 and 9, 16 periods";
        BitemporalTable x = new BitemporalTable();
        int[] days = new int[32];
        for (int day = 0; day < 16; day++) {
            x.say(3, day, day + 1, day % 2);
            days[2 * day] = day;
            days[2 * day + 1] = day + 1;
        }
        duePeriods(x, 0, 3, days);
        x.say(2, 0, 1, 1);
        duePeriods(x, 0, 2, 0, 1);
        // Key 2 ends where key 3 begins: no period may run on into another key.
        x.say(2, 14, 16, 0);
        duePeriods(x, 0, 2, 0, 1, 14, 16);
        duePeriods(x, 0, 3, days);
    }

    private static void noPeriods() {
        promise = "7, 8, 9 and 16, wrong inputs";
        BitemporalTable x = tickedTo(2);
        for (int k = 0; k < 4; k++) {
            x.say(k, 0, 16, 1);
        }
        for (int t : ticksThatAreNot(x)) {
            due("periods(" + t + ", 0)", x.periods(t, 0), 0);
            due("periodFrom(" + t + ", 0, 0)", x.periodFrom(t, 0, 0), NONE);
            due("periodTo(" + t + ", 0, 0)", x.periodTo(t, 0, 0), NONE);
        }
        for (int k : NO_KEYS) {
            due("periods(2, " + k + ")", x.periods(2, k), 0);
            due("periodFrom(2, " + k + ", 0)", x.periodFrom(2, k, 0), NONE);
            due("periodTo(2, " + k + ", 0)", x.periodTo(2, k, 0), NONE);
        }
    }

    private static void dueEras(BitemporalTable x, int k, int day, int... ticks) {
        int n = ticks.length;
        due("eras(" + k + ", " + day + ")", x.eras(k, day), n);
        for (int i = 0; i < n; i++) {
            due("eraFrom(" + k + ", " + day + ", " + i + ")", x.eraFrom(k, day, i), ticks[i]);
        }
        for (int i : new int[] {n, n + 1, 60, 61, 62, MOST, -1, -2, LEAST}) {
            if (i < 0 || i >= n) {
                due("eraFrom(" + k + ", " + day + ", " + i + ")", x.eraFrom(k, day, i), NONE);
            }
        }
    }

    private static void theEras() {
        promise = "10 and 11, eras";
        BitemporalTable x = new BitemporalTable();
        dueEras(x, 0, 6, 0);
        x.say(0, 6, 8, 2);
        dueEras(x, 0, 6, 0);
        x.tick();
        x.tick();
        dueEras(x, 0, 6, 0);
        x.say(0, 6, 7, 3);
        dueEras(x, 0, 6, 0, 2);
        dueEras(x, 0, 7, 0);
        x.say(0, 6, 7, 2);
        dueEras(x, 0, 6, 0);
        x.unsay(0, 6, 7);
        dueEras(x, 0, 6, 0, 2);
        x.tick();
        x.tick();
        x.say(0, 0, 16, 2);
        dueEras(x, 0, 6, 0, 2, 4);
        dueEras(x, 0, 0, 0, 4);
        dueEras(x, 0, 15, 0, 4);
        dueEras(x, 0, 7, 0);
        dueEras(x, 1, 6, 0);
        x.tick();
        x.say(0, 0, 16, 0);
        dueEras(x, 0, 0, 0, 4, 5);
        x.tick();
        x.unsay(0, 0, 16);
        dueEras(x, 0, 0, 0, 4, 5, 6);
    }

    private static void theMostEras() {
        promise = "10 and 11, eras of many ticks";
        BitemporalTable x = tickedTo(10);
        int[] ticks = new int[51];
        for (int i = 0; i < 50; i++) {
            x.tick();
            x.say(3, 15, 16, i % 10);
            ticks[i + 1] = i + 11;
        }
        due("now()", x.now(), 60);
        dueEras(x, 3, 15, ticks);
        dueEras(x, 3, 14, 0);
        duePeriods(x, 60, 3, 15, 16);
    }

    private static void noEras() {
        promise = "10, 11 and 16, wrong inputs";
        BitemporalTable x = tickedTo(1);
        x.say(0, 0, 16, 1);
        for (int k : NO_KEYS) {
            due("eras(" + k + ", 0)", x.eras(k, 0), 0);
            due("eraFrom(" + k + ", 0, 0)", x.eraFrom(k, 0, 0), NONE);
        }
        for (int day : NO_DAYS) {
            due("eras(0, " + day + ")", x.eras(0, day), 0);
            due("eraFrom(0, " + day + ", 0)", x.eraFrom(0, day, 0), NONE);
        }
    }

    private static void theDifference() {
        promise = "12 difference";
        BitemporalTable x = new BitemporalTable();
        x.say(0, 0, 4, 0);
        x.tick();
        x.say(0, 2, 6, 1);
        x.tick();
        x.unsay(0, 0, 1);
        x.say(1, 0, 16, 3);
        x.tick();
        x.say(0, 0, 4, 0);
        x.unsay(0, 4, 6);
        due("difference(0, 1, 0)", x.difference(0, 1, 0), 4);
        due("difference(1, 0, 0)", x.difference(1, 0, 0), 4);
        due("difference(1, 2, 0)", x.difference(1, 2, 0), 1);
        due("difference(0, 2, 0)", x.difference(0, 2, 0), 5);
        due("difference(0, 3, 0)", x.difference(0, 3, 0), 0);
        due("difference(2, 2, 0)", x.difference(2, 2, 0), 0);
        due("difference(0, 3, 1)", x.difference(0, 3, 1), 16);
        due("difference(2, 3, 1)", x.difference(2, 3, 1), 0);
        due("difference(0, 3, 2)", x.difference(0, 3, 2), 0);
        for (int t : ticksThatAreNot(x)) {
            due("difference(" + t + ", 0, 0)", x.difference(t, 0, 0), BAD);
            due("difference(0, " + t + ", 0)", x.difference(0, t, 0), BAD);
            due("difference(" + t + ", " + t + ", 0)", x.difference(t, t, 0), BAD);
        }
        for (int k : NO_KEYS) {
            due("difference(0, 0, " + k + ")", x.difference(0, 0, k), BAD);
        }
    }

    private static void theCount() {
        promise = "13 count";
        BitemporalTable x = new BitemporalTable();
        for (int v = 0; v < 10; v++) {
            due("count(0, " + v + ") of a new object", x.count(0, v), 0);
        }
        x.say(0, 0, 4, 1);
        x.say(3, 12, 16, 1);
        x.say(2, 0, 16, 0);
        x.tick();
        x.say(1, 5, 7, 9);
        x.say(0, 0, 1, 9);
        due("count(0, 1)", x.count(0, 1), 8);
        due("count(0, 0)", x.count(0, 0), 16);
        due("count(0, 9)", x.count(0, 9), 0);
        due("count(1, 1)", x.count(1, 1), 7);
        due("count(1, 9)", x.count(1, 9), 3);
        for (int k = 0; k < 4; k++) {
            x.say(k, 0, 16, 4);
        }
        due("count(1, 4)", x.count(1, 4), 64);
        due("count(1, 0)", x.count(1, 0), 0);
        for (int t : ticksThatAreNot(x)) {
            due("count(" + t + ", 1)", x.count(t, 1), 0);
            due("count(" + t + ", 0)", x.count(t, 0), 0);
        }
        x.unsay(0, 0, 16);
        for (int v : NO_VALUES) {
            due("count(1, " + v + ")", x.count(1, v), 0);
        }
    }

    private static void theAgreement() {
        promise = "14 agree";
        BitemporalTable x = new BitemporalTable();
        due("agree(0, 0, 1) of a new object", x.agree(0, 0, 1), 0);
        due("agree(0, 2, 2) of a new object", x.agree(0, 2, 2), 0);
        x.say(0, 0, 8, 0);
        x.say(1, 6, 10, 0);
        x.say(2, 0, 16, 3);
        due("agree(0, 0, 1)", x.agree(0, 0, 1), 0xC0);
        due("agree(0, 1, 0)", x.agree(0, 1, 0), 0xC0);
        due("agree(0, 0, 0)", x.agree(0, 0, 0), 0xFF);
        due("agree(0, 2, 2)", x.agree(0, 2, 2), 0xFFFF);
        due("agree(0, 0, 2)", x.agree(0, 0, 2), 0);
        due("agree(0, 0, 3)", x.agree(0, 0, 3), 0);
        due("agree(0, 3, 3)", x.agree(0, 3, 3), 0);
        x.tick();
        x.say(3, 0, 1, 3);
        x.say(3, 15, 16, 3);
        due("agree(1, 2, 3)", x.agree(1, 2, 3), 0x8001);
        due("agree(0, 2, 3)", x.agree(0, 2, 3), 0);
        for (int t : ticksThatAreNot(x)) {
            due("agree(" + t + ", 2, 2)", x.agree(t, 2, 2), 0);
        }
        for (int k : NO_KEYS) {
            due("agree(1, " + k + ", 2)", x.agree(1, k, 2), 0);
            due("agree(1, 2, " + k + ")", x.agree(1, 2, k), 0);
            due("agree(1, " + k + ", " + k + ")", x.agree(1, k, k), 0);
        }
    }

    private static void noAgreement() {
        promise = "14 agree, keys that are not";
        BitemporalTable x = new BitemporalTable();
        for (int k = 0; k < 4; k++) {
            x.say(k, 0, 16, 0);
        }
        x.tick();
        x.tick();
        for (int t = 0; t <= 2; t++) {
            due("agree(t, 0, 3)", x.agree(t, 0, 3), 0xFFFF);
            for (int k : NO_KEYS) {
                due("agree(" + t + ", " + k + ", 3)", x.agree(t, k, 3), 0);
                due("agree(" + t + ", 0, " + k + ")", x.agree(t, 0, k), 0);
            }
        }
    }

    private static void theRectangles() {
        promise = "15 rectangles";
        BitemporalTable x = new BitemporalTable();
        due("of a new object", x.rectangles(0), 0);
        x.say(0, 2, 6, 1);
        due("one period", x.rectangles(0), 1);
        x.tick();
        x.tick();
        due("that goes on", x.rectangles(0), 1);
        x.say(0, 2, 6, 2);
        due("another value for the same days", x.rectangles(0), 2);
        x.say(0, 2, 6, 1);
        due("the value is back at the same tick", x.rectangles(0), 1);
        x.say(0, 6, 7, 1);
        due("longer at its end", x.rectangles(0), 2);
        x.unsay(0, 6, 7);
        x.say(0, 1, 2, 1);
        due("longer at its start", x.rectangles(0), 2);
        x.unsay(0, 1, 2);
        x.unsay(0, 5, 6);
        due("shorter at its end", x.rectangles(0), 2);
        x.say(0, 5, 6, 1);
        x.unsay(0, 2, 3);
        due("shorter at its start", x.rectangles(0), 2);
        x.unsay(0, 2, 6);
        x.say(0, 3, 7, 1);
        due("as long, but later", x.rectangles(0), 2);
        x.unsay(0, 0, 16);
        due("nothing", x.rectangles(0), 1);
        x.tick();
        x.say(0, 2, 6, 1);
        due("the same again after nothing", x.rectangles(0), 2);
        due("of another key", x.rectangles(1), 0);
        for (int k : NO_KEYS) {
            due("rectangles(" + k + ")", x.rectangles(k), 0);
        }
    }

    private static void neighboursOfRectangles() {
        promise = "15 rectangles with neighbours";
        BitemporalTable x = new BitemporalTable();
        x.say(0, 0, 4, 1);
        x.say(0, 4, 8, 2);
        x.say(0, 12, 16, 1);
        due("three periods", x.rectangles(0), 3);
        x.tick();
        x.say(0, 8, 12, 3);
        due("a new one between them", x.rectangles(0), 4);
        x.tick();
        x.say(0, 4, 8, 1);
        due("two that become one", x.rectangles(0), 5);
        x.tick();
        x.say(0, 3, 5, 0);
        due("one that is split", x.rectangles(0), 8);
        x.tick();
        x.say(0, 0, 16, 5);
        due("all of one value", x.rectangles(0), 9);
        // Key 1 stands beside key 0 in any layout: it must not lengthen it.
        x.say(1, 0, 16, 5);
        due("of key 0 still", x.rectangles(0), 9);
        due("of key 1", x.rectangles(1), 1);
    }

    private static void rectanglesToTheLastTick() {
        promise = "15 rectangles up to tick 60";
        BitemporalTable x = tickedTo(10);
        for (int i = 0; i < 50; i++) {
            x.tick();
            x.say(3, 0, 16, i % 2);
        }
        due("rectangles(3)", x.rectangles(3), 50);
        due("rectangles(0)", x.rectangles(0), 0);
    }

    public static void main(String[] args) {
        aNewObject();
        ticking();
        tickTakesAllKeysAlong();
        theTime();
        saying();
        unsaying();
        badChanges();
        fullChanges();
        changesThatChangeNothingCount();
        earlierTicksStay();
        asking();
        thePeriods();
        theMostPeriods();
        noPeriods();
        theEras();
        theMostEras();
        noEras();
        theDifference();
        theCount();
        theAgreement();
        noAgreement();
        theRectangles();
        neighboursOfRectangles();
        rectanglesToTheLastTick();
        System.out.println(wrong == 0 ? "all answers are as due" : wrong + " answers are not as due");
        if (wrong != 0) {
            System.exit(1);
        }
    }
}
