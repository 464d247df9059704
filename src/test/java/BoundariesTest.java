import java.util.ArrayList;
import java.util.List;

/**
 * Each sentence of the document that names a boundary case has a method of its
 * own here, with the sentence at its head.
 */
public final class BoundariesTest {
    private static final int NONE = BitemporalTable.NONE;
    private static final int FULL = BitemporalTable.FULL;
    private static final int BAD = BitemporalTable.BAD;
    private static final int LEAST = Integer.MIN_VALUE;
    private static final int MOST = Integer.MAX_VALUE;
    private static final String NOTHING = "................";

    // The powers of two are numbers that a multiplication by the number of
    // days, or of cells of a tick, or a narrower type, would wrap around to 0.
    private static final int[] TOO_SMALL = {-1, -2, -3, -16, -64, -(1 << 26), -(1 << 28), LEAST + 1, LEAST};
    private static final int[] FAR_TOO_LARGE = {64, 1 << 8, 1 << 16, 1 << 26, 1 << 28, 1 << 30, MOST - 1, MOST};

    private static final int[] NO_KEYS = outside(3);
    private static final int[] NO_DAYS = outside(15);
    private static final int[] NO_VALUES = outside(9);

    private static int wrong = 0;
    private static int tests = 0;
    private static String sentence = "";

    /** Numbers that are not from 0 to the last one: the nearest, and far ones. */
    private static int[] outside(int last) {
        List<Integer> all = new ArrayList<>();
        for (int i : TOO_SMALL) {
            all.add(i);
        }
        all.add(last + 1);
        all.add(last + 2);
        for (int i : FAR_TOO_LARGE) {
            all.add(i);
        }
        return all.stream().mapToInt(Integer::intValue).toArray();
    }

    private static void says(String where, String words) {
        tests++;
        sentence = where + ", \"" + words + "\"";
    }

    private static void due(String call, int got, int want) {
        if (got != want) {
            wrong++;
            System.out.println(sentence + ": " + call + " answered " + got + ", due is " + want);
        }
    }

    private static void due(String call, String got, String want) {
        if (!got.equals(want)) {
            wrong++;
            System.out.println(sentence + ": " + call + " is " + got + ", due is " + want);
        }
    }

    /** A call as it is written, for the words of a wrong answer. */
    private static String call(String name, int... arguments) {
        StringBuilder text = new StringBuilder(name + "(");
        for (int i = 0; i < arguments.length; i++) {
            text.append(i == 0 ? "" : ", ").append(arguments[i]);
        }
        return text.append(")").toString();
    }

    /** A character for each day: a digit, '.' for nothing, '?' for another answer. */
    private static String row(BitemporalTable x, int t, int k) {
        StringBuilder days = new StringBuilder();
        for (int day = 0; day < 16; day++) {
            int said = x.at(t, k, day);
            days.append(said == NONE ? "." : said >= 0 && said <= 9 ? "" + said : "?");
        }
        return days.toString();
    }

    private static String rows(BitemporalTable x, int t) {
        return row(x, t, 0) + " " + row(x, t, 1) + " " + row(x, t, 2) + " " + row(x, t, 3);
    }

    private static void dueRow(BitemporalTable x, int t, int k, String want) {
        due("key " + k + " at tick " + t, row(x, t, k), want);
    }

    private static BitemporalTable tickedTo(int t) {
        BitemporalTable x = new BitemporalTable();
        tick(x, t);
        return x;
    }

    private static void tick(BitemporalTable x, int times) {
        for (int i = 0; i < times; i++) {
            x.tick();
        }
    }

    /** Every key says 1 for all days: whatever is answered wrongly finds something. */
    private static BitemporalTable filledAndTickedTo(int t) {
        BitemporalTable x = new BitemporalTable();
        for (int k = 0; k < 4; k++) {
            x.say(k, 0, 16, 1);
        }
        tick(x, t);
        return x;
    }

    private static BitemporalTable withChangesMade(int changes) {
        BitemporalTable x = new BitemporalTable();
        for (int i = 0; i < changes; i++) {
            x.say(0, 0, 16, i % 10);
        }
        return x;
    }

    // ---- Terms

    private static void atFirst() {
        says("Terms", "The present tick is 0 at first, and the table says nothing at all.");
        BitemporalTable x = new BitemporalTable();
        due("now()", x.now(), 0);
        due("at(1, 0, 0)", x.at(1, 0, 0), BAD);
        for (int k = 0; k < 4; k++) {
            dueRow(x, 0, k, NOTHING);
            due(call("periods", 0, k), x.periods(0, k), 0);
            due(call("periodFrom", 0, k, 0), x.periodFrom(0, k, 0), NONE);
            due(call("periodTo", 0, k, 0), x.periodTo(0, k, 0), NONE);
            due(call("difference", 0, 0, k), x.difference(0, 0, k), 0);
            due(call("agree", 0, k, k), x.agree(0, k, k), 0);
            due(call("rectangles", k), x.rectangles(k), 0);
            for (int day = 0; day < 16; day++) {
                due(call("eras", k, day), x.eras(k, day), 1);
                due(call("eraFrom", k, day, 0), x.eraFrom(k, day, 0), 0);
                due(call("eraFrom", k, day, 1), x.eraFrom(k, day, 1), NONE);
            }
        }
        for (int v = 0; v < 10; v++) {
            due(call("count", 0, v), x.count(0, v), 0);
        }
        due("say(0, 0, 16, 0)", x.say(0, 0, 16, 0), 16);
        due("unsay(1, 0, 16)", x.unsay(1, 0, 16), 0);
        due("tick()", x.tick(), 1);
    }

    private static void objectsStandAlone() {
        says("Promise 1", "Tick 0; the table says nothing.");
        BitemporalTable used = withChangesMade(50);
        tick(used, 60);
        BitemporalTable x = new BitemporalTable();
        due("now() beside a used object", x.now(), 0);
        due("the table beside a used object", rows(x, 0), rows(new BitemporalTable(), 0));
        due("say beside a full object", x.say(0, 0, 1, 1), 1);
        due("tick() beside a full object", x.tick(), 1);
        due("say of the full object", used.say(0, 0, 1, 1), FULL);
        due("now() of the full object", used.now(), 60);
    }

    private static void earlierTicks() {
        says("Terms", "for earlier ticks it never changes");
        BitemporalTable x = new BitemporalTable();
        x.say(0, 0, 16, 1);
        x.say(3, 15, 16, 2);
        String first = rows(x, 0);
        x.tick();
        x.say(0, 0, 16, 3);
        x.unsay(3, 15, 16);
        x.say(2, 0, 1, 4);
        due("tick 0 after changes at tick 1", rows(x, 0), first);
        String second = rows(x, 1);
        x.tick();
        x.unsay(0, 0, 16);
        x.say(1, 0, 16, 5);
        x.say(7, 0, 16, 5);
        due("tick 0 after changes at tick 2", rows(x, 0), first);
        due("tick 1 after changes at tick 2", rows(x, 1), second);
        due("count(0, 1)", x.count(0, 1), 16);
        due("count(1, 3)", x.count(1, 3), 16);
        due("periods(0, 0)", x.periods(0, 0), 1);
        due("eras(0, 0)", x.eras(0, 0), 3);
    }

    private static void manyEarlierTicks() {
        says("Terms", "for earlier ticks it never changes (a change at each of 50 ticks)");
        BitemporalTable x = tickedTo(10);
        for (int t = 11; t <= 60; t++) {
            x.tick();
            x.say(2, 7, 8, t % 10);
        }
        for (int t = 0; t <= 60; t++) {
            due(call("at", t, 2, 7), x.at(t, 2, 7), t <= 10 ? NONE : t % 10);
        }
    }

    private static void theNewTick() {
        says("Terms", "the new present tick begins with what the table said at the tick before");
        BitemporalTable x = new BitemporalTable();
        for (int k = 0; k < 4; k++) {
            x.say(k, k, 16 - k, k + 5);
        }
        x.tick();
        due("tick 1", rows(x, 1), "5555555555555555 .66666666666666. ..777777777777.. ...8888888888...");
        x.unsay(0, 0, 8);
        x.say(1, 15, 16, 0);
        x.tick();
        due("tick 2", rows(x, 2), "........55555555 .666666666666660 ..777777777777.. ...8888888888...");
        due("difference(1, 2, 0)", x.difference(1, 2, 0), 0);
        due("difference(0, 2, 0)", x.difference(0, 2, 0), 8);
        x.unsay(0, 8, 16);
        x.tick();
        dueRow(x, 3, 0, NOTHING);
        due("say of what was taken along", x.say(1, 1, 15, 6), 0);
        due("unsay of nothing taken along", x.unsay(0, 0, 16), 0);
    }

    private static void aNewTickOfNothing() {
        says("Terms", "the new present tick begins with what the table said at the tick before (nothing)");
        BitemporalTable x = new BitemporalTable();
        for (int t = 1; t <= 60; t++) {
            x.tick();
            due(call("at", t, 0, 0), x.at(t, 0, 0), NONE);
            due(call("at", t, 3, 15), x.at(t, 3, 15), NONE);
            due(call("count", t, 0), x.count(t, 0), 0);
        }
        due("the last tick", rows(x, 60), NOTHING + " " + NOTHING + " " + NOTHING + " " + NOTHING);
    }

    private static void theLastNewTick() {
        says("Terms", "the new present tick begins with what the table said at the tick before (tick 60)");
        BitemporalTable x = tickedTo(59);
        x.say(0, 0, 1, 9);
        x.say(3, 15, 16, 4);
        due("tick()", x.tick(), 60);
        dueRow(x, 60, 0, "9...............");
        dueRow(x, 60, 3, "...............4");
        x.unsay(3, 15, 16);
        dueRow(x, 60, 3, NOTHING);
        dueRow(x, 59, 3, "...............4");
        dueRow(x, 58, 3, NOTHING);
    }

    private static void fiftyChanges() {
        says("Terms", "At most 50 changes that answer a number can be made");
        BitemporalTable x = new BitemporalTable();
        for (int i = 0; i < 50; i++) {
            boolean says = i % 2 == 0;
            due("change " + (i + 1), says ? x.say(i % 4, 0, 16, i % 10) : x.unsay((i - 1) % 4, 0, 16), 16);
            x.tick();
        }
        due("change 51, say", x.say(0, 0, 16, 1), FULL);
        due("change 51, unsay", x.unsay(0, 0, 16), FULL);
        due("change 51 of another key", x.say(3, 0, 16, 1), FULL);
        x.tick();
        due("change 51 at another tick", x.say(0, 0, 16, 1), FULL);
    }

    private static void fiftyChangesOfNoDay() {
        says("Terms", "At most 50 changes that answer a number can be made (0 is a number)");
        BitemporalTable x = new BitemporalTable();
        x.say(2, 4, 5, 6);
        for (int i = 2; i <= 50; i++) {
            due("change " + i, i % 2 == 0 ? x.say(2, 4, 5, 6) : x.unsay(1, 4, 5), 0);
        }
        due("change 51, say", x.say(2, 4, 5, 7), FULL);
        due("change 51, unsay", x.unsay(2, 4, 5), FULL);
    }

    private static void sixtyTicks() {
        says("Terms", "and at most 60 ticks.");
        BitemporalTable x = new BitemporalTable();
        for (int t = 1; t <= 60; t++) {
            due("tick()", x.tick(), t);
        }
        due("tick() number 61", x.tick(), FULL);
    }

    private static void theLimitsStandAlone() {
        says("Terms", "At most 50 changes .. and at most 60 ticks. (neither uses up the other)");
        BitemporalTable x = withChangesMade(50);
        due("tick() after 50 changes", x.tick(), 1);
        tick(x, 58);
        due("tick() number 60 after 50 changes", x.tick(), 60);
        BitemporalTable y = tickedTo(60);
        y.tick();
        for (int i = 1; i <= 50; i++) {
            due("change " + i + " at tick 60", y.say(0, 0, 1, i % 2), 1);
        }
        due("change 51 at tick 60", y.say(0, 0, 1, 1), FULL);
    }

    private static void fiveHundredAndTwelveCalls() {
        says("What it is", "An object is used for at most 512 calls");
        BitemporalTable x = new BitemporalTable();
        x.say(1, 3, 6, 2);
        for (int call = 2; call < 500; call++) {
            due("call " + call, x.at(0, 1, call % 16), call % 16 >= 3 && call % 16 < 6 ? 2 : NONE);
        }
        for (int call = 500; call < 511; call++) {
            due("call " + call, x.tick(), call - 499);
        }
        due("call 511", x.say(1, 6, 7, 2), 1);
        due("call 512", x.rectangles(1), 2);
    }

    // ---- Promise 2

    /** What many calls answer at tick 60, as one text. */
    private static String answersAtTheEnd(BitemporalTable x) {
        StringBuilder all = new StringBuilder(rows(x, 60) + " now " + x.now());
        for (int k = 0; k < 4; k++) {
            all.append(" | ").append(x.periods(60, k)).append(' ').append(x.difference(59, 60, k));
            all.append(' ').append(x.eras(k, 0)).append(' ').append(x.rectangles(k)).append(' ').append(x.agree(60, k, 0));
        }
        return all.append(" | ").append(x.count(60, 1)).append(' ').append(x.at(61, 0, 0)).toString();
    }

    private static void tickWhenFull() {
        says("Promise 2", "FULL, changing nothing, when the present tick is 60.");
        BitemporalTable x = filledAndTickedTo(58);
        due("tick() at tick 58", x.tick(), 59);
        x.say(0, 0, 4, 3);
        due("tick() at tick 59", x.tick(), 60);
        x.unsay(1, 0, 4);
        String before = answersAtTheEnd(x);
        for (int i = 0; i < 4; i++) {
            due("tick() at tick 60", x.tick(), FULL);
        }
        due("the answers after FULL", answersAtTheEnd(x), before);
        due("the table after FULL", rows(x, 60),
            "3333111111111111 ....111111111111 1111111111111111 1111111111111111");
        due("now() after FULL", x.now(), 60);
        due("a change after FULL", x.say(1, 0, 5, 1), 4);
        due("tick() after the change", x.tick(), FULL);
        dueRow(x, 60, 1, "1111111111111111");
    }

    private static void refusedTicksAreNoChanges() {
        says("Promise 2", "FULL, changing nothing, when the present tick is 60. (no change is used up)");
        BitemporalTable x = tickedTo(60);
        tick(x, 100);
        due("now()", x.now(), 60);
        for (int i = 1; i <= 50; i++) {
            due("change " + i, x.say(0, 0, 2, i % 2), 2);
        }
        due("change 51", x.say(0, 0, 2, 1), FULL);
    }

    // ---- Promises 4 and 5

    private static void dueUnchanged(BitemporalTable x, String before) {
        due("the table after refused calls", rows(x, 0), before);
        due("now() after refused calls", x.now(), 0);
    }

    /** Values at the edges of the days and nothing between for key 1, the other way round for key 2. */
    private static BitemporalTable withSomethingSaid() {
        BitemporalTable x = new BitemporalTable();
        x.say(0, 0, 16, 1);
        x.say(1, 0, 4, 2);
        x.say(1, 12, 16, 2);
        x.say(2, 4, 12, 4);
        x.say(3, 0, 16, 3);
        return x;
    }

    private static void sayOfNoKey() {
        says("Promise 4", "BAD when k is not 0 .. 3");
        BitemporalTable x = withSomethingSaid();
        String before = rows(x, 0);
        for (int k : NO_KEYS) {
            due(call("say", k, 0, 16, 5), x.say(k, 0, 16, 5), BAD);
            due(call("say", k, 15, 16, 0), x.say(k, 15, 16, 0), BAD);
        }
        dueUnchanged(x, before);
        due("say of the first key", x.say(0, 0, 16, 5), 16);
        due("say of the last key", x.say(3, 0, 16, 5), 16);
    }

    private static void unsayOfNoKey() {
        says("Promise 5", "BAD .. as in say. (k is not 0 .. 3)");
        BitemporalTable x = withSomethingSaid();
        String before = rows(x, 0);
        for (int k : NO_KEYS) {
            due(call("unsay", k, 0, 16), x.unsay(k, 0, 16), BAD);
            due(call("unsay", k, 15, 16), x.unsay(k, 15, 16), BAD);
        }
        dueUnchanged(x, before);
        due("unsay of the first key", x.unsay(0, 0, 16), 16);
        due("unsay of the last key", x.unsay(3, 0, 16), 16);
    }

    /** Spans that begin too early, are empty, run backwards, or end too late. */
    private static List<int[]> spansThatAreNot() {
        List<int[]> spans = new ArrayList<>();
        for (int from : TOO_SMALL) {
            spans.add(new int[] {from, 1});
            spans.add(new int[] {from, 16});
        }
        for (int day = -1; day <= 17; day++) {
            spans.add(new int[] {day, day});
            spans.add(new int[] {day + 1, day});
        }
        spans.add(new int[] {16, 0});
        for (int to : outside(16)) {
            spans.add(new int[] {0, to});
            spans.add(new int[] {15, to});
        }
        spans.add(new int[] {16, 17});
        spans.add(new int[] {-1, 17});
        spans.add(new int[] {-5, -2});
        spans.add(new int[] {MOST, LEAST});
        spans.add(new int[] {LEAST, MOST});
        spans.add(new int[] {MOST - 1, MOST});
        spans.add(new int[] {LEAST, LEAST + 1});
        return spans;
    }

    private static void sayOfNoSpan() {
        says("Promise 4", "BAD when .. not 0 <= from < to <= 16");
        BitemporalTable x = withSomethingSaid();
        String before = rows(x, 0);
        for (int[] span : spansThatAreNot()) {
            due(call("say", 1, span[0], span[1], 5), x.say(1, span[0], span[1], 5), BAD);
            due(call("say", 2, span[0], span[1], 5), x.say(2, span[0], span[1], 5), BAD);
        }
        dueUnchanged(x, before);
    }

    private static void unsayOfNoSpan() {
        says("Promise 5", "BAD .. as in say. (not 0 <= from < to <= 16)");
        BitemporalTable x = withSomethingSaid();
        String before = rows(x, 0);
        for (int[] span : spansThatAreNot()) {
            due(call("unsay", 1, span[0], span[1]), x.unsay(1, span[0], span[1]), BAD);
            due(call("unsay", 2, span[0], span[1]), x.unsay(2, span[0], span[1]), BAD);
        }
        dueUnchanged(x, before);
    }

    private static void theOutermostSpans() {
        says("Promises 4 and 5", "0 <= from < to <= 16 (the spans at its edges are taken)");
        BitemporalTable x = new BitemporalTable();
        due("say(1, 0, 16, 2)", x.say(1, 0, 16, 2), 16);
        due("unsay(1, 0, 16)", x.unsay(1, 0, 16), 16);
        due("say(1, 0, 1, 2)", x.say(1, 0, 1, 2), 1);
        due("say(1, 15, 16, 2)", x.say(1, 15, 16, 2), 1);
        due("say(1, 7, 8, 2)", x.say(1, 7, 8, 2), 1);
        dueRow(x, 0, 1, "2......2.......2");
        due("unsay(1, 0, 1)", x.unsay(1, 0, 1), 1);
        due("unsay(1, 15, 16)", x.unsay(1, 15, 16), 1);
        due("unsay(1, 7, 8)", x.unsay(1, 7, 8), 1);
        dueRow(x, 0, 0, NOTHING);
        dueRow(x, 0, 1, NOTHING);
        dueRow(x, 0, 2, NOTHING);
    }

    private static void sayOfNoValue() {
        says("Promise 4", "BAD when .. v is not 0 .. 9");
        BitemporalTable x = withSomethingSaid();
        String before = rows(x, 0);
        for (int v : NO_VALUES) {
            due(call("say", 1, 0, 16, v), x.say(1, 0, 16, v), BAD);
        }
        dueUnchanged(x, before);
        for (int v : NO_VALUES) {
            due(call("say", 2, 0, 16, v), x.say(2, 0, 16, v), BAD);
        }
        dueUnchanged(x, before);
        due("say of the least value", x.say(1, 0, 8, 0), 8);
        due("say of the greatest value", x.say(1, 8, 16, 9), 8);
        dueRow(x, 0, 1, "0000000099999999");
    }

    private static void somethingElseOrNothing() {
        says("Promise 4", "the number of these days for which the table said something else, or nothing, before");
        BitemporalTable x = new BitemporalTable();
        due("over nothing, value 0", x.say(0, 0, 4, 0), 4);
        due("over the same", x.say(0, 0, 4, 0), 0);
        due("over something else", x.say(0, 0, 4, 9), 4);
        due("over the same, something else and nothing", x.say(0, 2, 7, 9), 3);
        x.say(0, 7, 9, 1);
        due("over the same, something else and nothing", x.say(0, 6, 11, 9), 4);
        x.tick();
        due("over the same, said at the tick before", x.say(0, 0, 11, 9), 0);
    }

    private static void somethingBefore() {
        says("Promise 5", "the number of these days for which the table said something before");
        BitemporalTable x = new BitemporalTable();
        due("of nothing", x.unsay(0, 0, 16), 0);
        x.say(0, 2, 4, 0);
        x.say(0, 6, 9, 9);
        due("of values and nothing", x.unsay(0, 3, 8), 3);
        due("again", x.unsay(0, 3, 8), 0);
        dueRow(x, 0, 0, "..0.....9.......");
        x.tick();
        due("of what was said at the tick before", x.unsay(0, 0, 16), 2);
        dueRow(x, 0, 0, "..0.....9.......");
    }

    private static void sayWhenFull() {
        says("Promise 4", "FULL when 50 changes were made.");
        BitemporalTable x = withChangesMade(49);
        due("change 50", x.say(0, 0, 1, 7), 1);
        String before = rows(x, 0);
        due("say of a day", x.say(0, 0, 1, 8), FULL);
        due("say that would change no day", x.say(0, 0, 1, 7), FULL);
        due("say of another key", x.say(3, 0, 16, 0), FULL);
        due("say again", x.say(0, 0, 16, 9), FULL);
        dueUnchanged(x, before);
    }

    private static void unsayWhenFull() {
        says("Promise 5", "FULL as in say.");
        BitemporalTable x = withChangesMade(49);
        due("change 50", x.unsay(0, 2, 3), 1);
        String before = rows(x, 0);
        due("unsay of a day", x.unsay(0, 3, 4), FULL);
        due("unsay that would change no day", x.unsay(1, 0, 16), FULL);
        due("unsay again", x.unsay(0, 0, 16), FULL);
        due("say after the unsay", x.say(0, 0, 16, 1), FULL);
        dueUnchanged(x, before);
    }

    // ---- Promise 6

    private static void theValueOrNone() {
        says("Promise 6", "the value, or NONE");
        BitemporalTable x = new BitemporalTable();
        for (int v = 0; v < 10; v++) {
            x.say(v % 4, v, v + 1, v);
        }
        for (int v = 0; v < 10; v++) {
            due(call("at", 0, v % 4, v), x.at(0, v % 4, v), v);
            due(call("at", 0, (v + 1) % 4, v), x.at(0, (v + 1) % 4, v), NONE);
        }
        x.unsay(0, 0, 1);
        due("at of a day that was unsaid", x.at(0, 0, 0), NONE);
    }

    private static void atNoTick() {
        says("Promise 6", "BAD when t is not from 0 to the present tick");
        for (int present : new int[] {0, 1, 2, 59, 60}) {
            BitemporalTable x = filledAndTickedTo(present);
            for (int t : outside(present)) {
                due(call("at", t, 0, 0), x.at(t, 0, 0), BAD);
                due(call("at", t, 3, 15), x.at(t, 3, 15), BAD);
            }
            due(call("at", 0, 3, 15), x.at(0, 3, 15), 1);
            due(call("at", present, 3, 15), x.at(present, 3, 15), 1);
        }
    }

    private static void atNoKey() {
        says("Promise 6", "BAD when .. k is not 0 .. 3");
        BitemporalTable x = filledAndTickedTo(3);
        for (int k : NO_KEYS) {
            due(call("at", 0, k, 0), x.at(0, k, 0), BAD);
            due(call("at", 2, k, 15), x.at(2, k, 15), BAD);
        }
        due("at(2, 0, 0)", x.at(2, 0, 0), 1);
        due("at(2, 3, 0)", x.at(2, 3, 0), 1);
    }

    private static void atNoDay() {
        says("Promise 6", "BAD when .. day is not 0 .. 15.");
        BitemporalTable x = filledAndTickedTo(3);
        for (int day : NO_DAYS) {
            due(call("at", 0, 0, day), x.at(0, 0, day), BAD);
            due(call("at", 2, 2, day), x.at(2, 2, day), BAD);
        }
        due("at(2, 2, 0)", x.at(2, 2, 0), 1);
        due("at(2, 2, 15)", x.at(2, 2, 15), 1);
    }

    // ---- Promises 7, 8 and 9

    private static void periodsOfNoTick() {
        says("Promise 7", "0 when t .. is not as in at.");
        for (int present : new int[] {0, 2, 60}) {
            BitemporalTable x = filledAndTickedTo(present);
            for (int t : outside(present)) {
                due(call("periods", t, 0), x.periods(t, 0), 0);
                due(call("periods", t, 3), x.periods(t, 3), 0);
            }
            due(call("periods", 0, 3), x.periods(0, 3), 1);
            due(call("periods", present, 3), x.periods(present, 3), 1);
        }
    }

    private static void periodsOfNoKey() {
        says("Promise 7", "0 when .. k is not as in at.");
        BitemporalTable x = filledAndTickedTo(2);
        for (int t = 0; t <= 2; t++) {
            for (int k : NO_KEYS) {
                due(call("periods", t, k), x.periods(t, k), 0);
            }
        }
        due("periods(1, 0)", x.periods(1, 0), 1);
        due("periods(1, 3)", x.periods(1, 3), 1);
    }

    private static void longestSpans() {
        says("Promise 7", "longest spans of days for all of which the table says the same value.");
        BitemporalTable x = new BitemporalTable();
        due("of nothing", x.periods(0, 1), 0);
        x.say(1, 0, 16, 0);
        due("of one value for all days", x.periods(0, 1), 1);
        x.say(1, 0, 8, 0);
        due("said in two parts", x.periods(0, 1), 1);
        x.say(1, 0, 8, 1);
        due("of two values side by side", x.periods(0, 1), 2);
        x.unsay(1, 6, 10);
        due("with nothing between", x.periods(0, 1), 2);
        x.say(1, 0, 16, 4);
        x.unsay(1, 8, 9);
        due("of one value with nothing between", x.periods(0, 1), 2);
        for (int day = 0; day < 16; day++) {
            x.say(1, day, day + 1, day % 2);
        }
        due("the most there can be", x.periods(0, 1), 16);
        due("of the key before", x.periods(0, 0), 0);
        due("of the key after", x.periods(0, 2), 0);
    }

    private static void noSuchPeriodFrom() {
        says("Promise 8", "NONE when there is none.");
        BitemporalTable x = new BitemporalTable();
        for (int i : outside(-1)) {
            due(call("periodFrom", 0, 0, i), x.periodFrom(0, 0, i), NONE);
        }
        due("periodFrom(0, 0, 0) of nothing", x.periodFrom(0, 0, 0), NONE);
        x.say(0, 0, 3, 1);
        x.say(0, 3, 5, 2);
        x.say(0, 13, 16, 1);
        for (int i : outside(2)) {
            due(call("periodFrom", 0, 0, i), x.periodFrom(0, 0, i), NONE);
        }
        due("periodFrom(0, 0, 0)", x.periodFrom(0, 0, 0), 0);
        due("periodFrom(0, 0, 1)", x.periodFrom(0, 0, 1), 3);
        due("periodFrom(0, 0, 2)", x.periodFrom(0, 0, 2), 13);
        due("periodFrom(0, 1, 0)", x.periodFrom(0, 1, 0), NONE);
    }

    private static void noSuchPeriodTo() {
        says("Promise 9", "NONE when there is none.");
        BitemporalTable x = new BitemporalTable();
        for (int i : outside(-1)) {
            due(call("periodTo", 0, 0, i), x.periodTo(0, 0, i), NONE);
        }
        due("periodTo(0, 0, 0) of nothing", x.periodTo(0, 0, 0), NONE);
        x.say(0, 0, 3, 1);
        x.say(0, 3, 5, 2);
        x.say(0, 13, 16, 1);
        for (int i : outside(2)) {
            due(call("periodTo", 0, 0, i), x.periodTo(0, 0, i), NONE);
        }
        due("periodTo(0, 0, 0)", x.periodTo(0, 0, 0), 3);
        due("periodTo(0, 0, 1)", x.periodTo(0, 0, 1), 5);
        due("periodTo(0, 0, 2)", x.periodTo(0, 0, 2), 16);
        due("periodTo(0, 1, 0)", x.periodTo(0, 1, 0), NONE);
    }

    private static void noSixteenthPeriod() {
        says("Promises 8 and 9", "NONE when there is none. (when there are as many as there can be)");
        BitemporalTable x = new BitemporalTable();
        for (int day = 0; day < 16; day++) {
            x.say(2, day, day + 1, day % 3);
        }
        x.say(3, 0, 16, 7);
        due("periodFrom(0, 2, 0)", x.periodFrom(0, 2, 0), 0);
        due("periodTo(0, 2, 0)", x.periodTo(0, 2, 0), 1);
        due("periodFrom(0, 2, 15)", x.periodFrom(0, 2, 15), 15);
        due("periodTo(0, 2, 15)", x.periodTo(0, 2, 15), 16);
        for (int i : outside(15)) {
            due(call("periodFrom", 0, 2, i), x.periodFrom(0, 2, i), NONE);
            due(call("periodTo", 0, 2, i), x.periodTo(0, 2, i), NONE);
        }
    }

    // ---- Promises 10 and 11

    private static void erasOfNoKey() {
        says("Promise 10", "0 when k .. is not as in at.");
        BitemporalTable x = filledAndTickedTo(2);
        for (int k : NO_KEYS) {
            due(call("eras", k, 0), x.eras(k, 0), 0);
            due(call("eras", k, 15), x.eras(k, 15), 0);
        }
        due("eras(0, 15)", x.eras(0, 15), 1);
        due("eras(3, 15)", x.eras(3, 15), 1);
    }

    private static void erasOfNoDay() {
        says("Promise 10", "0 when .. day is not as in at.");
        BitemporalTable x = filledAndTickedTo(2);
        for (int day : NO_DAYS) {
            due(call("eras", 0, day), x.eras(0, day), 0);
            due(call("eras", 1, day), x.eras(1, day), 0);
            due(call("eras", 3, day), x.eras(3, day), 0);
        }
        due("eras(1, 0)", x.eras(1, 0), 1);
        due("eras(1, 15)", x.eras(1, 15), 1);
    }

    private static void theSameValueOrNothing() {
        says("Promise 10", "longest spans of ticks .. (the same value, or nothing)");
        BitemporalTable x = tickedTo(2);
        due("of nothing", x.eras(0, 8), 1);
        x.say(0, 8, 9, 0);
        due("nothing, then a value at the present tick", x.eras(0, 8), 2);
        x.unsay(0, 8, 9);
        due("taken back at the same tick", x.eras(0, 8), 1);
        x.say(0, 8, 9, 0);
        x.tick();
        due("the value goes on", x.eras(0, 8), 2);
        x.unsay(0, 8, 9);
        due("and ends", x.eras(0, 8), 3);
        x.tick();
        x.say(0, 8, 9, 0);
        due("and is back", x.eras(0, 8), 4);
        x.tick();
        x.say(0, 8, 9, 1);
        due("and becomes another", x.eras(0, 8), 5);
        due("of the day before", x.eras(0, 7), 1);
        due("of another key", x.eras(1, 8), 1);
    }

    private static void noSuchEra() {
        says("Promise 11", "NONE when there is none.");
        BitemporalTable x = tickedTo(1);
        for (int i : outside(0)) {
            due(call("eraFrom", 0, 5, i), x.eraFrom(0, 5, i), NONE);
        }
        due("eraFrom(0, 5, 0) of nothing", x.eraFrom(0, 5, 0), 0);
        x.say(0, 5, 6, 0);
        tick(x, 3);
        x.unsay(0, 5, 6);
        for (int i : outside(2)) {
            due(call("eraFrom", 0, 5, i), x.eraFrom(0, 5, i), NONE);
        }
        due("eraFrom(0, 5, 0)", x.eraFrom(0, 5, 0), 0);
        due("eraFrom(0, 5, 1)", x.eraFrom(0, 5, 1), 1);
        due("eraFrom(0, 5, 2)", x.eraFrom(0, 5, 2), 4);
        due("eraFrom(0, 4, 1)", x.eraFrom(0, 4, 1), NONE);
        due("eraFrom(1, 5, 1)", x.eraFrom(1, 5, 1), NONE);
    }

    private static void noEraAfterTheMost() {
        says("Promise 11", "NONE when there is none. (when there are as many as there can be)");
        BitemporalTable x = tickedTo(10);
        for (int i = 1; i <= 50; i++) {
            x.tick();
            x.say(3, 0, 16, i % 2);
        }
        due("eras(3, 0)", x.eras(3, 0), 51);
        due("eraFrom(3, 0, 0)", x.eraFrom(3, 0, 0), 0);
        due("eraFrom(3, 0, 1)", x.eraFrom(3, 0, 1), 11);
        due("eraFrom(3, 0, 50)", x.eraFrom(3, 0, 50), 60);
        for (int i : outside(50)) {
            due(call("eraFrom", 3, 0, i), x.eraFrom(3, 0, i), NONE);
        }
    }

    // ---- Promises 12 to 15

    private static void differenceOfNoTicks() {
        says("Promise 12", "BAD when t or u is not from 0 to the present tick");
        for (int present : new int[] {0, 2, 60}) {
            BitemporalTable x = filledAndTickedTo(present);
            for (int t : outside(present)) {
                due(call("difference", t, 0, 0), x.difference(t, 0, 0), BAD);
                due(call("difference", present, t, 3), x.difference(present, t, 3), BAD);
                due(call("difference", t, t, 1), x.difference(t, t, 1), BAD);
            }
            due(call("difference", 0, present, 3), x.difference(0, present, 3), 0);
            due(call("difference", present, 0, 3), x.difference(present, 0, 3), 0);
        }
    }

    private static void differenceOfNoKey() {
        says("Promise 12", "BAD when .. k is not 0 .. 3.");
        BitemporalTable x = filledAndTickedTo(2);
        for (int k : NO_KEYS) {
            due(call("difference", 0, 2, k), x.difference(0, 2, k), BAD);
            due(call("difference", 1, 1, k), x.difference(1, 1, k), BAD);
        }
        due("difference(0, 2, 0)", x.difference(0, 2, 0), 0);
        due("difference(0, 2, 3)", x.difference(0, 2, 3), 0);
    }

    private static void differentThings() {
        says("Promise 12", "the table says different things");
        BitemporalTable x = new BitemporalTable();
        x.say(2, 0, 12, 0);
        x.tick();
        x.unsay(2, 0, 3);
        x.say(2, 3, 8, 1);
        x.say(2, 12, 14, 0);
        due("a value and nothing, two values, nothing and a value", x.difference(0, 1, 2), 10);
        due("the other way round", x.difference(1, 0, 2), 10);
        due("a tick and itself", x.difference(1, 1, 2), 0);
        x.say(1, 0, 16, 3);
        due("all days", x.difference(0, 1, 1), 16);
        due("nothing and nothing", x.difference(0, 1, 3), 0);
    }

    private static void countAtNoTick() {
        says("Promise 13", "0 when t is not from 0 to the present tick");
        for (int present : new int[] {0, 2, 60}) {
            BitemporalTable x = filledAndTickedTo(present);
            for (int t : outside(present)) {
                due(call("count", t, 1), x.count(t, 1), 0);
                due(call("count", t, 0), x.count(t, 0), 0);
            }
            due(call("count", 0, 1), x.count(0, 1), 64);
            due(call("count", present, 1), x.count(present, 1), 64);
        }
    }

    private static void countOfNoValue() {
        says("Promise 13", "0 when .. v is not 0 .. 9.");
        BitemporalTable x = new BitemporalTable();
        x.say(0, 0, 8, 0);
        x.say(3, 8, 16, 9);
        x.tick();
        for (int v : NO_VALUES) {
            // The rest of the table says nothing, which is not a value either.
            due(call("count", 0, v), x.count(0, v), 0);
            due(call("count", 1, v), x.count(1, v), 0);
        }
        due("count(1, 0)", x.count(1, 0), 8);
        due("count(1, 9)", x.count(1, 9), 8);
        due("count(1, 5)", x.count(1, 5), 0);
    }

    private static void theBitsOfDays() {
        says("Promise 14", "bit d for day d");
        BitemporalTable x = new BitemporalTable();
        x.say(3, 0, 16, 6);
        for (int day = 0; day < 16; day++) {
            x.say(1, day, day + 1, 6);
            due("agree(0, 1, 3) on day " + day, x.agree(0, 1, 3), 1 << day);
            x.unsay(1, day, day + 1);
        }
        x.say(1, 0, 16, 6);
        due("agree(0, 1, 3) on all days", x.agree(0, 1, 3), 65535);
        due("agree(0, 3, 1) on all days", x.agree(0, 3, 1), 65535);
        due("agree of a key with itself", x.agree(0, 3, 3), 65535);
    }

    private static void agreeOnTheSameValue() {
        says("Promise 14", "say the same value");
        BitemporalTable x = new BitemporalTable();
        due("two keys that say nothing", x.agree(0, 0, 2), 0);
        due("a key that says nothing with itself", x.agree(0, 0, 0), 0);
        x.say(0, 0, 4, 0);
        due("a value and nothing", x.agree(0, 0, 2), 0);
        due("nothing and a value", x.agree(0, 2, 0), 0);
        x.say(2, 2, 6, 0);
        due("value 0 on two days, nothing elsewhere", x.agree(0, 0, 2), 12);
        x.say(2, 3, 4, 1);
        due("two values", x.agree(0, 0, 2), 4);
        due("a key with itself", x.agree(0, 2, 2), 60);
    }

    private static void agreeAtNoTick() {
        says("Promise 14", "0 when t .. is not as in at.");
        for (int present : new int[] {0, 2, 60}) {
            BitemporalTable x = filledAndTickedTo(present);
            for (int t : outside(present)) {
                due(call("agree", t, 0, 3), x.agree(t, 0, 3), 0);
                due(call("agree", t, 2, 2), x.agree(t, 2, 2), 0);
            }
            due(call("agree", 0, 0, 3), x.agree(0, 0, 3), 65535);
            due(call("agree", present, 0, 3), x.agree(present, 0, 3), 65535);
        }
    }

    private static void agreeOfNoKey() {
        says("Promise 14", "0 when .. k or m is not as in at.");
        BitemporalTable x = filledAndTickedTo(3);
        for (int t = 0; t <= 2; t += 2) {
            for (int k : NO_KEYS) {
                due(call("agree", t, k, 3), x.agree(t, k, 3), 0);
                due(call("agree", t, 0, k), x.agree(t, 0, k), 0);
                due(call("agree", t, k, k), x.agree(t, k, k), 0);
            }
        }
        due("agree(2, 3, 0)", x.agree(2, 3, 0), 65535);
    }

    private static void rectanglesOfNoKey() {
        says("Promise 15", "0 when k is not 0 .. 3.");
        BitemporalTable x = filledAndTickedTo(3);
        x.say(0, 0, 8, 2);
        x.say(3, 0, 8, 2);
        for (int k : NO_KEYS) {
            due(call("rectangles", k), x.rectangles(k), 0);
        }
        due("rectangles(0)", x.rectangles(0), 3);
        due("rectangles(3)", x.rectangles(3), 3);
    }

    private static void rectanglesAtTheEdges() {
        says("Promise 15", "as long in days as the period it lies in at each of its ticks");
        BitemporalTable x = new BitemporalTable();
        x.say(1, 0, 16, 0);
        tick(x, 60);
        due("one value for all days and ticks", x.rectangles(1), 1);
        due("nothing at all", x.rectangles(0), 0);
        x.say(1, 15, 16, 1);
        due("the last day of the last tick is another value", x.rectangles(1), 3);
        x.unsay(1, 15, 16);
        due("the last day of the last tick is nothing", x.rectangles(1), 2);
        x.say(1, 15, 16, 0);
        x.unsay(1, 0, 1);
        due("the first day of the last tick is nothing", x.rectangles(1), 2);
        x.unsay(1, 0, 16);
        due("the last tick is nothing", x.rectangles(1), 1);
        x.say(1, 0, 16, 0);
        due("all as it was", x.rectangles(1), 1);
    }

    // ---- Promise 16

    private static void badBeforeFull() {
        says("Promise 16", "In say and unsay BAD is tested before FULL");
        BitemporalTable x = withChangesMade(50);
        due("say that is not BAD", x.say(0, 0, 1, 1), FULL);
        due("unsay that is not BAD", x.unsay(0, 0, 1), FULL);
        for (int k : NO_KEYS) {
            due(call("say", k, 0, 1, 1), x.say(k, 0, 1, 1), BAD);
            due(call("unsay", k, 0, 1), x.unsay(k, 0, 1), BAD);
        }
        for (int[] span : spansThatAreNot()) {
            due(call("say", 0, span[0], span[1], 1), x.say(0, span[0], span[1], 1), BAD);
            due(call("unsay", 0, span[0], span[1]), x.unsay(0, span[0], span[1]), BAD);
        }
        for (int v : NO_VALUES) {
            due(call("say", 0, 0, 1, v), x.say(0, 0, 1, v), BAD);
        }
    }

    private static void refusedCallsChangeNothing() {
        says("Promise 16", "neither changes anything");
        BitemporalTable x = withChangesMade(50);
        String before = rows(x, 0);
        x.say(0, 0, 16, 1);
        x.say(1, 0, 16, 1);
        x.unsay(0, 0, 16);
        due("the table after FULL", rows(x, 0), before);
        x.say(0, 0, 17, 1);
        x.say(0, -1, 16, 1);
        x.say(0, 0, 16, 10);
        x.say(4, 0, 16, 1);
        x.unsay(0, 0, 17);
        x.unsay(0, -1, 16);
        x.unsay(-1, 0, 16);
        due("the table after BAD and FULL", rows(x, 0), before);
        BitemporalTable y = withSomethingSaid();
        y.tick();
        String still = rows(y, 1);
        y.say(1, 0, 17, 1);
        y.say(1, -1, 16, 1);
        y.say(1, 0, 16, -1);
        y.say(-1, 0, 16, 1);
        y.unsay(1, 0, 17);
        y.unsay(1, -1, 16);
        y.unsay(4, 0, 16);
        due("the table after BAD", rows(y, 1), still);
        due("the tick before after BAD", rows(y, 0), still);
        due("now() after BAD", y.now(), 1);
    }

    private static void refusedCallsDoNotCount() {
        says("Promise 16", "neither counts as a change.");
        BitemporalTable x = new BitemporalTable();
        for (int i = 0; i < 60; i++) {
            x.say(4, 0, 1, 1);
            x.say(0, 1, 1, 1);
            x.say(0, 0, 1, 10);
            x.unsay(-1, 0, 1);
            x.unsay(0, 0, 17);
        }
        for (int i = 1; i <= 50; i++) {
            due("change " + i + " after many that were BAD", x.say(0, 0, 1, i % 2), 1);
        }
        due("change 51", x.say(0, 0, 1, 1), FULL);
    }

    private static void refusedBetweenChangesDoNotCount() {
        says("Promise 16", "neither counts as a change. (between changes, and after the last)");
        BitemporalTable x = new BitemporalTable();
        for (int i = 1; i <= 50; i++) {
            due("unsay, BAD", x.unsay(0, 5, 5), BAD);
            due("say, BAD", x.say(0, 5, 6, -1), BAD);
            due("change " + i, x.say(0, 5, 6, i % 2), 1);
        }
        for (int i = 0; i < 120; i++) {
            due("say, FULL again and again", x.say(0, 5, 6, 7), FULL);
            due("unsay, FULL again and again", x.unsay(0, 5, 6), FULL);
        }
        due("at(0, 0, 5)", x.at(0, 0, 5), 0);
    }

    private static void periodFromOfNoTickOrKey() {
        says("Promise 16", "periodFrom .. NONE when t or k is not as in at, too");
        for (int present : new int[] {0, 2, 60}) {
            BitemporalTable x = filledAndTickedTo(present);
            for (int t : outside(present)) {
                due(call("periodFrom", t, 0, 0), x.periodFrom(t, 0, 0), NONE);
                due(call("periodFrom", t, 3, 0), x.periodFrom(t, 3, 0), NONE);
            }
            for (int k : NO_KEYS) {
                due(call("periodFrom", 0, k, 0), x.periodFrom(0, k, 0), NONE);
                due(call("periodFrom", present, k, 0), x.periodFrom(present, k, 0), NONE);
            }
            due(call("periodFrom", 0, 0, 0), x.periodFrom(0, 0, 0), 0);
            due(call("periodFrom", present, 3, 0), x.periodFrom(present, 3, 0), 0);
        }
    }

    private static void periodToOfNoTickOrKey() {
        says("Promise 16", "periodTo .. NONE when t or k is not as in at, too");
        for (int present : new int[] {0, 2, 60}) {
            BitemporalTable x = filledAndTickedTo(present);
            for (int t : outside(present)) {
                due(call("periodTo", t, 0, 0), x.periodTo(t, 0, 0), NONE);
                due(call("periodTo", t, 3, 0), x.periodTo(t, 3, 0), NONE);
            }
            for (int k : NO_KEYS) {
                due(call("periodTo", 0, k, 0), x.periodTo(0, k, 0), NONE);
                due(call("periodTo", present, k, 0), x.periodTo(present, k, 0), NONE);
            }
            due(call("periodTo", 0, 0, 0), x.periodTo(0, 0, 0), 16);
            due(call("periodTo", present, 3, 0), x.periodTo(present, 3, 0), 16);
        }
    }

    private static void eraFromOfNoKeyOrDay() {
        says("Promise 16", "eraFrom when k or day is not.");
        BitemporalTable x = filledAndTickedTo(2);
        for (int i = 0; i <= 1; i++) {
            for (int k : NO_KEYS) {
                due(call("eraFrom", k, 0, i), x.eraFrom(k, 0, i), NONE);
                due(call("eraFrom", k, 15, i), x.eraFrom(k, 15, i), NONE);
            }
            for (int day : NO_DAYS) {
                due(call("eraFrom", 0, day, i), x.eraFrom(0, day, i), NONE);
                due(call("eraFrom", 1, day, i), x.eraFrom(1, day, i), NONE);
                due(call("eraFrom", 3, day, i), x.eraFrom(3, day, i), NONE);
            }
        }
        due("eraFrom(0, 0, 0)", x.eraFrom(0, 0, 0), 0);
        due("eraFrom(3, 15, 0)", x.eraFrom(3, 15, 0), 0);
    }

    private static void terms() {
        atFirst();
        objectsStandAlone();
        earlierTicks();
        manyEarlierTicks();
        theNewTick();
        aNewTickOfNothing();
        theLastNewTick();
        fiftyChanges();
        fiftyChangesOfNoDay();
        sixtyTicks();
        theLimitsStandAlone();
        fiveHundredAndTwelveCalls();
    }

    private static void changing() {
        tickWhenFull();
        refusedTicksAreNoChanges();
        sayOfNoKey();
        unsayOfNoKey();
        sayOfNoSpan();
        unsayOfNoSpan();
        theOutermostSpans();
        sayOfNoValue();
        somethingElseOrNothing();
        somethingBefore();
        sayWhenFull();
        unsayWhenFull();
    }

    private static void asking() {
        theValueOrNone();
        atNoTick();
        atNoKey();
        atNoDay();
        periodsOfNoTick();
        periodsOfNoKey();
        longestSpans();
        noSuchPeriodFrom();
        noSuchPeriodTo();
        noSixteenthPeriod();
        erasOfNoKey();
        erasOfNoDay();
        theSameValueOrNothing();
        noSuchEra();
        noEraAfterTheMost();
        differenceOfNoTicks();
        differenceOfNoKey();
        differentThings();
        countAtNoTick();
        countOfNoValue();
        theBitsOfDays();
        agreeOnTheSameValue();
        agreeAtNoTick();
        agreeOfNoKey();
        rectanglesOfNoKey();
        rectanglesAtTheEdges();
    }

    private static void orderAndLimits() {
        badBeforeFull();
        refusedCallsChangeNothing();
        refusedCallsDoNotCount();
        refusedBetweenChangesDoNotCount();
        periodFromOfNoTickOrKey();
        periodToOfNoTickOrKey();
        eraFromOfNoKeyOrDay();
    }

    public static void main(String[] args) {
        terms();
        changing();
        asking();
        orderAndLimits();
        System.out.println(wrong == 0 ? tests + " tests of sentences hold" : wrong + " answers are not as due");
        if (wrong != 0) {
            System.exit(1);
        }
    }
}
