import java.util.ArrayList;
import java.util.Arrays;
import java.util.List;
import java.util.function.Consumer;
import java.util.function.Supplier;

/**
 * The boundary cases of the document, one method for each sentence that names one. The sentence stands in the call of
 * sentence(), and is printed with every answer that breaks it. No object is used for more than 512 calls.
 */
public final class BoundaryTest {
    private static final int LATE = 0;
    private static final int SIGNED = 1;
    private static final int FINE = 2;
    private static final int HARD = 3;
    private static final int OK = 0;
    private static final int BAD = -1;
    private static final int FULL = -2;
    private static final int REFUSED = -3;
    private static final int CYCLE = -4;
    private static final int NOTHING = -2000;
    private static final int NO = 0;
    private static final int YES = 1;
    private static final int MOST_CALLS = 512;

    // The ends of every range in the document and their neighbours, what a shift, a mask or a narrower type would take
    // for a number of the range, and the ends of int.
    private static final int[] ANY = {
        Integer.MIN_VALUE, Integer.MIN_VALUE + 1, -65536, -256, -255, -64, -33, -32, -31, -6, -5, -4, -3, -2, -1,
        0, 1, 2, 3, 4, 5, 6, 7, 8, 9, 10, 11, 29, 30, 31, 32, 33, 34, 35, 36, 37, 59, 60, 61, 62, 64, 65, 96, 128, 256,
        257, 1000, 65536, 65537, Integer.MAX_VALUE - 1, Integer.MAX_VALUE
    };

    private interface Call {
        int on(SplitJobPlanner x);
    }

    private interface NumberCall {
        int on(SplitJobPlanner x, int id);
    }

    private interface PairCall {
        int on(SplitJobPlanner x, int i, int j);
    }

    private static int wrong = 0;
    private static String said = "";

    private static void sentence(String words) {
        said = words;
    }

    private static void due(String call, int got, int want) {
        if (got != want) {
            wrong++;
            if (wrong <= 100) {
                System.out.println(said + ": " + call + " answered " + got + ", due is " + want);
            }
        }
    }

    private static void due(String call, boolean got, boolean want) {
        due(call, bit(got), bit(want));
    }

    private static int bit(boolean answer) {
        return answer ? YES : NO;
    }

    public static void main(String[] args) {
        terms();
        promise1();
        promise2();
        promise3();
        promise4();
        promise5();
        promise6();
        promise7();
        promise8();
        promise9();
        promise10();
        promise11();
        promise12();
        promise13();
        promise14();
        promise15();
        promise16();
        whatItIs();
        System.out.println(wrong == 0 ? "all answers are as due" : wrong + " answers are not as due");
        if (wrong != 0) {
            System.exit(1);
        }
    }

    // ---- objects to start from, and ways to look at them

    private static SplitJobPlanner empty() {
        return new SplitJobPlanner(5, 40);
    }

    /** Four jobs of all four kinds, two links, one number free. */
    private static SplitJobPlanner mixed() {
        SplitJobPlanner x = new SplitJobPlanner(5, 40);
        x.add(0, 3);
        x.add(2, 2);
        x.addRuled(1, FINE, 6);
        x.addRuled(2, SIGNED, 20);
        x.setRule(0, LATE, 4, 3);
        x.setRule(1, HARD, 8, 2);
        x.link(0, 1);
        x.link(2, 3);
        return x;
    }

    private static final int MIXED_CALLS = 8;

    /** The numbers 0, 2 and 4 are held, 1 and 3 were: the links of 1 and 3 went with them. */
    private static SplitJobPlanner gaps() {
        SplitJobPlanner x = new SplitJobPlanner(5, 30);
        for (int i = 0; i < 5; i++) {
            x.add(i, 1);
        }
        for (int i = 0; i < 4; i++) {
            x.link(i, i + 1);
        }
        x.link(0, 2);
        x.remove(1);
        x.remove(3);
        return x;
    }

    /** Three numbers, all held; 0 -> 1 -> 2 with not a unit to spare. */
    private static SplitJobPlanner tightAndFull() {
        SplitJobPlanner x = new SplitJobPlanner(3, 6);
        x.add(1, 2);
        x.add(3, 2);
        x.add(5, 1);
        x.link(0, 1);
        x.link(1, 2);
        return x;
    }

    /** One number alone, held. */
    private static SplitJobPlanner single() {
        SplitJobPlanner x = new SplitJobPlanner(1, 7);
        x.add(3, 2);
        return x;
    }

    private static List<Supplier<SplitJobPlanner>> starts() {
        return List.of(BoundaryTest::empty, BoundaryTest::mixed, BoundaryTest::gaps, BoundaryTest::tightAndFull,
            BoundaryTest::single);
    }

    /** What every question answers; 233 calls. */
    private static List<Integer> look(SplitJobPlanner x) {
        List<Integer> seen = new ArrayList<>();
        seen.add(x.jobs());
        seen.add(x.worst());
        seen.add(x.span());
        for (int i = 0; i < 5; i++) {
            seen.add(x.worstWithout(i));
            seen.add(x.earliestFinish(i));
            seen.add(x.delay(i));
            for (int j = 0; j < 5; j++) {
                seen.add(bit(x.linked(i, j)));
                seen.add(bit(x.couldPrecede(i, j)));
            }
            // No due is above 30, so later times show no more of a rule.
            for (int t = 0; t <= 32; t++) {
                seen.add(x.costAt(i, t));
            }
        }
        return seen;
    }

    /** A run of changes with their answers, and a look: it shows what a look alone may not. */
    private static List<Integer> goOn(SplitJobPlanner x) {
        List<Integer> seen = new ArrayList<>();
        seen.add(x.add(1, 1));
        seen.add(x.addRuled(2, LATE, 25));
        seen.add(x.link(0, 4));
        seen.add(x.link(4, 2));
        seen.add(bit(x.remove(0)));
        seen.add(x.add(2, 2));
        for (int i = 0; i < 5; i++) {
            for (int j = 0; j < 5; j++) {
                seen.add(bit(x.unlink(i, j)));
            }
        }
        seen.add(x.link(1, 0));
        seen.addAll(look(x));
        return seen;
    }

    private static void same(String what, List<Integer> got, List<Integer> want) {
        for (int k = 0; k < want.size(); k++) {
            due(what + ", answer " + k, got.get(k), want.get(k));
        }
    }

    /** The calls leave an object that can't be told from one that never had them. */
    private static void unchangedBy(Supplier<SplitJobPlanner> start, Consumer<SplitJobPlanner> calls) {
        SplitJobPlanner x = start.get();
        calls.accept(x);
        same("a question afterwards", look(x), look(start.get()));
        SplitJobPlanner y = start.get();
        calls.accept(y);
        same("a later change", goOn(y), goOn(start.get()));
    }

    private static boolean holds(SplitJobPlanner x, int id) {
        return id >= 0 && id <= 4 && (x.jobs() >> id & 1) == 1;
    }

    /** The call answers want for every number that no job holds, and changes nothing by it. */
    private static void onStrangers(String name, NumberCall call, int want) {
        for (Supplier<SplitJobPlanner> start : starts()) {
            SplitJobPlanner held = start.get();
            unchangedBy(start, x -> {
                for (int id : ANY) {
                    if (!holds(held, id)) {
                        due(name + " with " + id, call.on(x, id), want);
                    }
                }
            });
        }
    }

    /** The same for pairs of which one or both are no job's number. */
    private static void onStrangePairs(String name, PairCall call, int want) {
        onStrangers(name + ", both", (x, id) -> call.on(x, id, id), want);
        for (int k = 0; k < 5; k++) {
            int other = k;
            onStrangers(name + ", and then " + k, (x, id) -> call.on(x, id, other), want);
            onStrangers(name + ", after " + k, (x, id) -> call.on(x, other, id), want);
        }
    }

    private static boolean within(int value, int least, int most) {
        return least <= value && value <= most;
    }

    // ---- Terms

    private static void terms() {
        releaseEnds();
        lengthEnds();
        linkedUnits();
        oneJobInAUnit();
        unusedUnits();
        costsAroundDue();
        costsAtTheEndsOfTime();
        goodIsAtMostTheCap();
        planOfNoJobs();
        numbersBelowCapacity();
    }

    private static void releaseEnds() {
        sentence("Terms: a release 0 .. 9, unit t is allowed when t >= r, the finish is t + 1");
        for (int r = 0; r <= 9; r++) {
            SplitJobPlanner x = new SplitJobPlanner(1, 1000);
            due("add(" + r + ", 1)", x.add(r, 1), 0);
            due("earliestFinish(0) of release " + r, x.earliestFinish(0), r + 1);
            due("span() of release " + r, x.span(), r + 1);
            due("worst() of release " + r, x.worst(), r + 1);
        }
    }

    private static void lengthEnds() {
        sentence("Terms: a length 1 .. 3, exactly p units");
        for (int p = 1; p <= 3; p++) {
            SplitJobPlanner x = new SplitJobPlanner(2, 1000);
            due("add(0, " + p + ")", x.add(0, p), 0);
            due("addRuled(" + p + ", LATE, 0)", x.addRuled(p, LATE, 0), 1);
            due("earliestFinish(0) of length " + p, x.earliestFinish(0), p);
            due("span() of two lengths " + p, x.span(), 2 * p);
        }
    }

    private static void linkedUnits() {
        sentence("Terms: no unit of j may lie before the last unit of i is over");
        // Job 0 has the units 4 and 5 at the earliest; the first unit free for job 1 is then 6.
        int[][] finishes = {{0, 7}, {4, 7}, {5, 7}, {6, 7}, {7, 8}};
        for (int[] row : finishes) {
            SplitJobPlanner x = new SplitJobPlanner(2, 1000);
            x.add(4, 2);
            x.add(row[0], 1);
            due("earliestFinish(1) before the link", x.earliestFinish(1), row[0] + 1);
            due("link(0, 1)", x.link(0, 1), OK);
            due("earliestFinish(1) of release " + row[0], x.earliestFinish(1), row[1]);
        }
        // Job 1 interrupts job 0, whose last unit is then 3.
        SplitJobPlanner x = new SplitJobPlanner(3, 10);
        x.add(0, 3);
        x.add(1, 1);
        x.add(0, 1);
        due("job 1 by 2", x.setRule(1, HARD, 2, 1), OK);
        due("link(0, 2)", x.link(0, 2), OK);
        due("earliestFinish(0)", x.earliestFinish(0), 4);
        due("earliestFinish(2)", x.earliestFinish(2), 5);
    }

    private static void oneJobInAUnit() {
        sentence("Terms: no unit to two jobs");
        for (int cap = 1; cap <= 4; cap++) {
            SplitJobPlanner x = new SplitJobPlanner(5, cap);
            for (int i = 0; i < cap; i++) {
                due("add(0, 1)", x.add(0, 1), i);
            }
            due("one unit more than there are", x.add(0, 1), REFUSED);
            due("span()", x.span(), cap);
        }
    }

    private static void unusedUnits() {
        sentence("Terms: units may stay unused");
        SplitJobPlanner x = new SplitJobPlanner(3, 12);
        due("add(9, 1)", x.add(9, 1), 0);
        due("the units 0 .. 8 are unused", x.worst(), 10);
        due("add(0, 1)", x.add(0, 1), 1);
        due("the units 1 .. 8 are unused", x.span(), 10);
        due("link(1, 0)", x.link(1, 0), OK);
        due("span() with the link", x.span(), 10);
        due("add(3, 2)", x.add(3, 2), 2);
        due("the units 1, 2 and 5 .. 8 are unused", x.span(), 10);
    }

    private static void costsAroundDue() {
        for (int dueTime : new int[] {0, 1, 2, 15, 29, 30}) {
            for (int w = 1; w <= 5; w++) {
                sentence("Terms: LATE, weight * (t - due) when t > due, else 0");
                costsAround(LATE, dueTime, w, 0, w);
                sentence("Terms: SIGNED, weight * (t - due), which may be negative");
                costsAround(SIGNED, dueTime, w, -w, w);
                sentence("Terms: FINE, 20 * weight when t > due, else 0");
                costsAround(FINE, dueTime, w, 0, 20 * w);
                sentence("Terms: HARD, 1000 when t > due, else 0");
                costsAround(HARD, dueTime, w, 0, 1000);
            }
        }
    }

    private static void costsAround(int kind, int dueTime, int weight, int before, int after) {
        SplitJobPlanner x = new SplitJobPlanner(1, 1000);
        x.add(0, 1);
        due("setRule", x.setRule(0, kind, dueTime, weight), OK);
        String rule = "costAt with rule (" + kind + ", " + dueTime + ", " + weight + ")";
        due(rule + " one before due", x.costAt(0, dueTime - 1), dueTime == 0 ? NOTHING : before);
        due(rule + " at due", x.costAt(0, dueTime), 0);
        due(rule + " one after due", x.costAt(0, dueTime + 1), after);
    }

    private static void costsAtTheEndsOfTime() {
        sentence("Terms: the cost of a job at the first and the last time");
        // kind, due, weight, cost at 0, cost at 60
        int[][] rules = {
            {LATE, 0, 1, 0, 60}, {LATE, 0, 5, 0, 300}, {LATE, 30, 1, 0, 30}, {LATE, 30, 5, 0, 150},
            {SIGNED, 0, 1, 0, 60}, {SIGNED, 0, 5, 0, 300}, {SIGNED, 30, 1, -30, 30}, {SIGNED, 30, 5, -150, 150},
            {FINE, 0, 1, 0, 20}, {FINE, 0, 5, 0, 100}, {FINE, 30, 1, 0, 20}, {FINE, 30, 5, 0, 100},
            {HARD, 0, 1, 0, 1000}, {HARD, 0, 5, 0, 1000}, {HARD, 30, 1, 0, 1000}, {HARD, 30, 5, 0, 1000}
        };
        for (int[] rule : rules) {
            SplitJobPlanner x = new SplitJobPlanner(1, 1000);
            x.add(0, 1);
            x.setRule(0, rule[0], rule[1], rule[2]);
            due("costAt(0, 0) with rule " + Arrays.toString(rule), x.costAt(0, 0), rule[3]);
            due("costAt(0, 60) with rule " + Arrays.toString(rule), x.costAt(0, 60), rule[4]);
        }
    }

    private static void goodIsAtMostTheCap() {
        sentence("Terms: a plan is good when every job's cost in it is at most the cap");
        // kind, due, the cost of a job of 3 units that starts at once
        int[][] rules = {
            {LATE, 0, 3}, {LATE, 2, 1}, {LATE, 3, 0}, {LATE, 4, 0}, {SIGNED, 0, 3}, {SIGNED, 3, 0}, {SIGNED, 4, -1},
            {SIGNED, 30, -27}, {FINE, 2, 20}, {FINE, 3, 0}, {FINE, 4, 0}, {HARD, 3, 0}, {HARD, 2, 1000}
        };
        for (int[] rule : rules) {
            String call = "addRuled(3, " + rule[0] + ", " + rule[1] + ")";
            due(call + " at the cap", new SplitJobPlanner(1, rule[2]).addRuled(3, rule[0], rule[1]), 0);
            due(call + " above the cap", new SplitJobPlanner(1, rule[2] - 1).addRuled(3, rule[0], rule[1]), REFUSED);
        }
    }

    private static void planOfNoJobs() {
        sentence("Terms: with no jobs the plan that uses no unit is good");
        for (int cap : new int[] {Integer.MIN_VALUE, -201, -200, -30, -29, -1, 0, 1, 1000, Integer.MAX_VALUE}) {
            SplitJobPlanner x = new SplitJobPlanner(5, cap);
            due("span()", x.span(), 0);
            due("worst()", x.worst(), NOTHING);
            int first = x.addRuled(1, SIGNED, 30);
            due("addRuled(1, SIGNED, 30) with cap " + cap, first, cap >= -29 ? 0 : REFUSED);
            due("the last job may always go", x.remove(0), first == 0);
            due("jobs() without it", x.jobs(), 0);
            due("span() without it", x.span(), 0);
            due("worst() without it", x.worst(), NOTHING);
            due("addRuled(1, SIGNED, 30) again", x.addRuled(1, SIGNED, 30), first);
        }
    }

    private static void numbersBelowCapacity() {
        sentence("Terms: jobs hold numbers 0 .. capacity - 1");
        for (int capacity = 1; capacity <= 5; capacity++) {
            SplitJobPlanner x = new SplitJobPlanner(capacity, 1000);
            for (int i = 0; i < capacity; i++) {
                due("add(0, 1)", x.add(0, 1), i);
                due("costAt(" + i + ", 0)", x.costAt(i, 0), 0);
            }
            due("jobs()", x.jobs(), (1 << capacity) - 1);
            for (int id = capacity; id <= 6; id++) {
                due("costAt(" + id + ", 0)", x.costAt(id, 0), NOTHING);
                due("setRule(" + id + ", LATE, 0, 1)", x.setRule(id, LATE, 0, 1), BAD);
                due("remove(" + id + ")", x.remove(id), false);
                due("link(0, " + id + ")", x.link(0, id), BAD);
                due("link(" + id + ", 0)", x.link(id, 0), BAD);
            }
        }
    }

    // ---- Promise 1

    private static void promise1() {
        newHasNoJobs();
        capacityIsClamped();
        capIsClamped();
    }

    private static void newHasNoJobs() {
        sentence("Promise 1: no jobs");
        for (int argument : ANY) {
            for (SplitJobPlanner x : List.of(new SplitJobPlanner(argument, 40), new SplitJobPlanner(3, argument))) {
                due("jobs() of a new object", x.jobs(), 0);
                due("worst() of a new object", x.worst(), NOTHING);
                due("span() of a new object", x.span(), 0);
                for (int i = 0; i < 5; i++) {
                    due("costAt(" + i + ", 0) of a new object", x.costAt(i, 0), NOTHING);
                    due("earliestFinish(" + i + ") of a new object", x.earliestFinish(i), NOTHING);
                    due("linked(" + i + ", 0) of a new object", x.linked(i, 0), false);
                }
            }
        }
    }

    private static void capacityIsClamped() {
        sentence("Promise 1: capacity, clamped to 1 .. 5");
        for (int capacity : ANY) {
            int room = capacity < 1 ? 1 : capacity > 5 ? 5 : capacity;
            SplitJobPlanner x = new SplitJobPlanner(capacity, 1000);
            for (int i = 0; i < room; i++) {
                due("add(9, 3) with capacity " + capacity, x.add(9, 3), i);
            }
            due("add(9, 3) beyond capacity " + capacity, x.add(9, 3), FULL);
            due("addRuled(1, LATE, 0) beyond capacity " + capacity, x.addRuled(1, LATE, 0), FULL);
            due("jobs() with capacity " + capacity, x.jobs(), (1 << room) - 1);
        }
    }

    private static void capIsClamped() {
        sentence("Promise 1: cap, clamped to -200 .. 1000");
        // No cost lies outside -145 .. 1000, so a cap beyond either end can only be seen not to wrap or to flip.
        for (int cap : ANY) {
            capAccepts(cap);
        }
        for (int cap : new int[] {-201, -200, -199, -146, -145, -144, -30, -29, -28, 12, 13, 19, 20, 21, 99, 100, 101,
            999, 1000, 1001}) {
            capAccepts(cap);
        }
    }

    private static void capAccepts(int cap) {
        for (int d : new int[] {0, 1, 2, 15, 28, 29, 30}) {
            int got = new SplitJobPlanner(1, cap).addRuled(1, SIGNED, d);
            due("addRuled(1, SIGNED, " + d + ") with cap " + cap, got, 1 - d <= cap ? 0 : REFUSED);
        }
        for (int r = 0; r <= 9; r++) {
            due("add(" + r + ", 3) with cap " + cap, new SplitJobPlanner(1, cap).add(r, 3), r + 3 <= cap ? 0 : REFUSED);
        }
        due("a fine of 20 with cap " + cap, new SplitJobPlanner(1, cap).addRuled(1, FINE, 0), 20 <= cap ? 0 : REFUSED);
        due("1000 with cap " + cap, new SplitJobPlanner(1, cap).addRuled(1, HARD, 0), 1000 <= cap ? 0 : REFUSED);
    }

    // ---- Promise 2

    private static void promise2() {
        addBadUnless();
        addBadFirst();
        addFullWhen();
        addRefusedWhen();
        addLeastNumber();
        addRuleAndNoLinks();
        addAddingNoneChangesNothing();
    }

    private static void addBadUnless() {
        sentence("Promise 2: BAD unless 0 <= r <= 9 and 1 <= p <= 3");
        for (int r : ANY) {
            for (int p : ANY) {
                SplitJobPlanner x = new SplitJobPlanner(1, 1000);
                boolean fine = within(r, 0, 9) && within(p, 1, 3);
                due("add(" + r + ", " + p + ")", x.add(r, p), fine ? 0 : BAD);
                due("jobs() after it", x.jobs(), fine ? 1 : 0);
            }
        }
    }

    private static final int[][] BAD_ADDS = {
        {-1, 1}, {10, 1}, {0, 0}, {0, 4}, {-1, 0}, {10, 4}, {Integer.MIN_VALUE, 3}, {Integer.MAX_VALUE, 3},
        {9, Integer.MIN_VALUE}, {9, Integer.MAX_VALUE}
    };

    private static void addBadFirst() {
        sentence("Promise 2: BAD is the first that applies");
        for (int[] row : BAD_ADDS) {
            String call = "add(" + row[0] + ", " + row[1] + ")";
            due(call + ", which would be FULL", single().add(row[0], row[1]), BAD);
            due(call + ", which would be FULL", tightAndFull().add(row[0], row[1]), BAD);
            due(call + ", which would be REFUSED", new SplitJobPlanner(1, 0).add(row[0], row[1]), BAD);
        }
    }

    private static void addFullWhen() {
        sentence("Promise 2: FULL when capacity jobs are there, before REFUSED");
        for (int capacity = 1; capacity <= 5; capacity++) {
            // The jobs take all the units that the cap allows, so one more would be refused.
            SplitJobPlanner x = new SplitJobPlanner(capacity, capacity);
            SplitJobPlanner roomier = new SplitJobPlanner(capacity + 1, capacity);
            for (int i = 0; i < capacity; i++) {
                due("add(0, 1)", x.add(0, 1), i);
                due("add(0, 1)", roomier.add(0, 1), i);
            }
            due("add(0, 1) with " + capacity + " of " + capacity, x.add(0, 1), FULL);
            due("add(9, 3) with " + capacity + " of " + capacity, x.add(9, 3), FULL);
            due("add(0, 1) with a number free", roomier.add(0, 1), capacity < 5 ? REFUSED : FULL);
            due("remove(0)", x.remove(0), true);
            due("add(9, 3) with a number free", x.add(9, 3), REFUSED);
            due("add(0, 1) with a number free", x.add(0, 1), 0);
            due("add(0, 1) when full again", x.add(0, 1), FULL);
        }
    }

    private static void addRefusedWhen() {
        sentence("Promise 2: REFUSED when with this job there would be no good plan");
        for (int cap = -1; cap <= 13; cap++) {
            for (int r = 0; r <= 9; r++) {
                for (int p = 1; p <= 3; p++) {
                    int got = new SplitJobPlanner(1, cap).add(r, p);
                    due("add(" + r + ", " + p + ") with cap " + cap, got, r + p <= cap ? 0 : REFUSED);
                }
            }
        }
        SplitJobPlanner x = new SplitJobPlanner(5, 5);
        due("add(0, 3)", x.add(0, 3), 0);
        due("add(0, 3), 6 units by 5", x.add(0, 3), REFUSED);
        due("add(3, 3), which alone ends at 6", x.add(3, 3), REFUSED);
        due("add(3, 2)", x.add(3, 2), 1);
        due("add(0, 1), no unit is left", x.add(0, 1), REFUSED);
        // It is not the new job but the old one that would cost too much.
        SplitJobPlanner y = new SplitJobPlanner(2, 4);
        y.add(0, 2);
        due("job 0 by 2", y.setRule(0, SIGNED, 0, 2), OK);
        due("add(0, 3)", y.add(0, 3), REFUSED);
        due("add(0, 2)", y.add(0, 2), 1);
    }

    private static void addLeastNumber() {
        sentence("Promise 2: the job is there under the least number no job holds");
        for (int gone = 0; gone < 32; gone++) {
            SplitJobPlanner x = new SplitJobPlanner(5, 1000);
            SplitJobPlanner y = new SplitJobPlanner(5, 1000);
            for (int i = 0; i < 5; i++) {
                due("add(1, 2)", x.add(1, 2), i);
                due("add(1, 2)", y.add(1, 2), i);
            }
            for (int i = 0; i < 5; i++) {
                if ((gone >> i & 1) == 1) {
                    due("remove(" + i + ")", x.remove(i), true);
                }
                if ((gone >> (4 - i) & 1) == 1) {
                    due("remove(" + (4 - i) + ")", y.remove(4 - i), true);
                }
            }
            for (int i = 0; i < 5; i++) {
                if ((gone >> i & 1) == 1) {
                    due("add(0, 1) without " + gone, x.add(0, 1), i);
                    due("add(0, 1) without " + gone, y.add(0, 1), i);
                }
            }
            due("add(0, 1) when all are held", x.add(0, 1), FULL);
            due("jobs()", y.jobs(), 31);
        }
    }

    private static void addRuleAndNoLinks() {
        sentence("Promise 2: release r and length p, the rule (LATE, 0, 1) and no links, whatever held the number before");
        for (int kind = LATE; kind <= HARD; kind++) {
            SplitJobPlanner x = new SplitJobPlanner(3, 1000);
            x.add(0, 1);
            x.add(9, 3);
            x.add(0, 1);
            x.setRule(1, kind, 30, 5);
            x.link(0, 1);
            x.link(1, 2);
            x.remove(1);
            due("add(2, 1)", x.add(2, 1), 1);
            for (int t = 0; t <= 60; t++) {
                due("costAt(1, " + t + ")", x.costAt(1, t), t);
            }
            due("release 2, length 1", x.earliestFinish(1), 3);
            due("linked(0, 1)", x.linked(0, 1), false);
            due("linked(1, 2)", x.linked(1, 2), false);
            due("job 2 need not wait", x.earliestFinish(2), 1);
        }
    }

    private static void addAddingNoneChangesNothing() {
        sentence("Promise 2: a call that adds no job changes nothing");
        for (Supplier<SplitJobPlanner> start : starts()) {
            unchangedBy(start, x -> {
                for (int[] row : BAD_ADDS) {
                    due("add(" + row[0] + ", " + row[1] + ")", x.add(row[0], row[1]), BAD);
                }
            });
        }
        unchangedBy(BoundaryTest::tightAndFull, x -> {
            due("add(9, 3)", x.add(9, 3), FULL);
            due("add(0, 1)", x.add(0, 1), FULL);
        });
        unchangedBy(BoundaryTest::single, x -> due("add(0, 1)", x.add(0, 1), FULL));
        unchangedBy(BoundaryTest::nearlyTight, x -> {
            due("add(9, 3)", x.add(9, 3), REFUSED);
            due("add(0, 2)", x.add(0, 2), REFUSED);
            due("add(4, 3)", x.add(4, 3), REFUSED);
        });
    }

    /** Numbers 0 and 2 are held, one unit is left before the cap. */
    private static SplitJobPlanner nearlyTight() {
        SplitJobPlanner x = new SplitJobPlanner(5, 6);
        x.add(0, 3);
        x.add(0, 1);
        x.add(4, 2);
        x.remove(1);
        x.link(0, 2);
        return x;
    }

    // ---- Promise 3

    private static void promise3() {
        addRuledBadUnless();
        addRuledBadFirst();
        addRuledFullWhen();
        addRuledRefusedWhen();
        addRuledLeastNumber();
        addRuledRuleReleaseAndNoLinks();
        addRuledAddingNoneChangesNothing();
    }

    private static void addRuledBadUnless() {
        sentence("Promise 3: BAD unless 1 <= p <= 3, 0 <= kind <= 3 and 0 <= due <= 30");
        for (int p : ANY) {
            for (int kind : ANY) {
                for (int d : ANY) {
                    SplitJobPlanner x = new SplitJobPlanner(1, 1000);
                    boolean fine = within(p, 1, 3) && within(kind, 0, 3) && within(d, 0, 30);
                    due("addRuled(" + p + ", " + kind + ", " + d + ")", x.addRuled(p, kind, d), fine ? 0 : BAD);
                    due("jobs() after it", x.jobs(), fine ? 1 : 0);
                }
            }
        }
    }

    private static final int[][] BAD_RULED_ADDS = {
        {0, LATE, 0}, {4, LATE, 0}, {1, -1, 0}, {1, 4, 0}, {1, LATE, -1}, {1, LATE, 31}, {0, 4, 31},
        {Integer.MIN_VALUE, HARD, 30}, {Integer.MAX_VALUE, HARD, 30}, {3, Integer.MIN_VALUE, 30},
        {3, Integer.MAX_VALUE, 30}, {3, HARD, Integer.MIN_VALUE}, {3, HARD, Integer.MAX_VALUE}
    };

    private static void addRuledBadFirst() {
        sentence("Promise 3: BAD is the first that applies");
        for (int[] row : BAD_RULED_ADDS) {
            String call = "addRuled(" + row[0] + ", " + row[1] + ", " + row[2] + ")";
            due(call + ", which would be FULL", single().addRuled(row[0], row[1], row[2]), BAD);
            due(call + ", which would be FULL", tightAndFull().addRuled(row[0], row[1], row[2]), BAD);
            due(call + ", which would be REFUSED", new SplitJobPlanner(1, -200).addRuled(row[0], row[1], row[2]), BAD);
        }
    }

    private static void addRuledFullWhen() {
        sentence("Promise 3: FULL as in add, before REFUSED");
        for (int capacity = 1; capacity <= 5; capacity++) {
            SplitJobPlanner x = new SplitJobPlanner(capacity, 0);
            SplitJobPlanner roomier = new SplitJobPlanner(capacity + 1, 0);
            for (int i = 0; i < capacity; i++) {
                due("addRuled(1, HARD, " + capacity + ")", x.addRuled(1, HARD, capacity), i);
                due("addRuled(1, HARD, " + capacity + ")", roomier.addRuled(1, HARD, capacity), i);
            }
            due("one more of " + capacity, x.addRuled(1, HARD, capacity), FULL);
            due("one more with a number free", roomier.addRuled(1, HARD, capacity), capacity < 5 ? REFUSED : FULL);
            due("one with room in time", x.addRuled(1, HARD, 30), FULL);
            due("remove", x.remove(capacity - 1), true);
            due("one more after remove", x.addRuled(1, HARD, capacity), capacity - 1);
        }
    }

    private static void addRuledRefusedWhen() {
        sentence("Promise 3: REFUSED as in add, by the rule that the job has from the start");
        for (int p = 1; p <= 3; p++) {
            for (int d = 0; d <= 30; d++) {
                int over = p > d ? p - d : 0;
                String call = "addRuled(" + p + ", kind, " + d + ")";
                due(call + " LATE with the least cap", new SplitJobPlanner(1, over).addRuled(p, LATE, d), 0);
                due(call + " LATE below it", new SplitJobPlanner(1, over - 1).addRuled(p, LATE, d), REFUSED);
                due(call + " SIGNED with the least cap", new SplitJobPlanner(1, p - d).addRuled(p, SIGNED, d), 0);
                due(call + " SIGNED below it", new SplitJobPlanner(1, p - d - 1).addRuled(p, SIGNED, d), REFUSED);
                due(call + " FINE with cap 0", new SplitJobPlanner(1, 0).addRuled(p, FINE, d), over > 0 ? REFUSED : 0);
                due(call + " FINE with cap 19", new SplitJobPlanner(1, 19).addRuled(p, FINE, d), over > 0 ? REFUSED : 0);
                due(call + " FINE with cap 20", new SplitJobPlanner(1, 20).addRuled(p, FINE, d), 0);
                due(call + " HARD with cap 0", new SplitJobPlanner(1, 0).addRuled(p, HARD, d), over > 0 ? REFUSED : 0);
                due(call + " HARD with 999", new SplitJobPlanner(1, 999).addRuled(p, HARD, d), over > 0 ? REFUSED : 0);
                due(call + " HARD with cap 1000", new SplitJobPlanner(1, 1000).addRuled(p, HARD, d), 0);
            }
        }
    }

    private static void addRuledLeastNumber() {
        sentence("Promise 3: the number, as in add");
        for (int gone = 0; gone < 32; gone++) {
            SplitJobPlanner x = new SplitJobPlanner(5, 1000);
            for (int i = 0; i < 5; i++) {
                due("addRuled(3, FINE, 7)", x.addRuled(3, FINE, 7), i);
            }
            for (int i = 4; i >= 0; i--) {
                if ((gone >> i & 1) == 1) {
                    due("remove(" + i + ")", x.remove(i), true);
                }
            }
            for (int i = 0; i < 5; i++) {
                if ((gone >> i & 1) == 1) {
                    due("addRuled(1, HARD, 2) without " + gone, x.addRuled(1, HARD, 2), i);
                }
            }
            due("addRuled(1, HARD, 2) when all are held", x.addRuled(1, HARD, 2), FULL);
        }
    }

    private static void addRuledRuleReleaseAndNoLinks() {
        sentence("Promise 3: the rule (kind, due, 1), release 0, length p and no links, whatever held the number before");
        for (int p = 1; p <= 3; p++) {
            for (int kind = LATE; kind <= HARD; kind++) {
                SplitJobPlanner x = new SplitJobPlanner(3, 1000);
                x.add(0, 1);
                x.add(9, 4 - p);
                x.add(0, 1);
                x.setRule(1, HARD - kind, 20, 5);
                x.link(0, 1);
                x.link(1, 2);
                x.remove(1);
                due("addRuled(p, kind, 30)", x.addRuled(p, kind, 30), 1);
                due("costAt(1, 29)", x.costAt(1, 29), kind == SIGNED ? -1 : 0);
                due("costAt(1, 30)", x.costAt(1, 30), 0);
                due("costAt(1, 31)", x.costAt(1, 31), kind == FINE ? 20 : kind == HARD ? 1000 : 1);
                due("release 0, length " + p, x.earliestFinish(1), p);
                due("linked(0, 1)", x.linked(0, 1), false);
                due("linked(1, 2)", x.linked(1, 2), false);
                due("job 2 need not wait", x.earliestFinish(2), 1);
            }
        }
    }

    private static void addRuledAddingNoneChangesNothing() {
        sentence("Promise 3: as in add, a call that adds no job changes nothing");
        for (Supplier<SplitJobPlanner> start : starts()) {
            unchangedBy(start, x -> {
                for (int[] row : BAD_RULED_ADDS) {
                    due("a bad addRuled", x.addRuled(row[0], row[1], row[2]), BAD);
                }
            });
        }
        unchangedBy(BoundaryTest::tightAndFull, x -> {
            due("addRuled(1, LATE, 30)", x.addRuled(1, LATE, 30), FULL);
            due("addRuled(3, HARD, 0)", x.addRuled(3, HARD, 0), FULL);
        });
        unchangedBy(BoundaryTest::nearlyTight, x -> {
            due("addRuled(1, HARD, 0)", x.addRuled(1, HARD, 0), REFUSED);
            due("addRuled(2, SIGNED, 0)", x.addRuled(2, SIGNED, 0), REFUSED);
            due("addRuled(2, FINE, 1)", x.addRuled(2, FINE, 1), REFUSED);
        });
    }

    // ---- Promise 4

    private static void promise4() {
        setRuleBadWhenNoJob();
        setRuleBadUnless();
        setRuleBadFirst();
        setRuleRefusedWhen();
        setRuleOkGivesTheRule();
        setRuleNotOkChangesNothing();
    }

    private static void setRuleBadWhenNoJob() {
        sentence("Promise 4: BAD when no job holds the number id");
        onStrangers("setRule(id, LATE, 30, 1)", (x, id) -> x.setRule(id, LATE, 30, 1), BAD);
        onStrangers("setRule(id, HARD, 0, 5)", (x, id) -> x.setRule(id, HARD, 0, 5), BAD);
        onStrangers("setRule(id, 4, 31, 0)", (x, id) -> x.setRule(id, 4, 31, 0), BAD);
    }

    private static void setRuleBadUnless() {
        sentence("Promise 4: BAD unless 0 <= kind <= 3, 0 <= due <= 30 and 1 <= weight <= 5");
        for (int kind : ANY) {
            for (int d : ANY) {
                SplitJobPlanner x = new SplitJobPlanner(1, 1000);
                x.add(0, 1);
                for (int weight : ANY) {
                    boolean fine = within(kind, 0, 3) && within(d, 0, 30) && within(weight, 1, 5);
                    String call = "setRule(0, " + kind + ", " + d + ", " + weight + ")";
                    due(call, x.setRule(0, kind, d, weight), fine ? OK : BAD);
                }
            }
        }
    }

    private static final int[][] BAD_RULES = {
        {-1, 0, 1}, {4, 0, 1}, {LATE, -1, 1}, {LATE, 31, 1}, {LATE, 0, 0}, {LATE, 0, 6}, {LATE, 0, -1}, {4, 31, 6},
        {Integer.MIN_VALUE, 0, 1}, {Integer.MAX_VALUE, 0, 1}, {LATE, Integer.MIN_VALUE, 1},
        {LATE, Integer.MAX_VALUE, 1}, {LATE, 0, Integer.MIN_VALUE}, {LATE, 0, Integer.MAX_VALUE}
    };

    private static void setRuleBadFirst() {
        sentence("Promise 4: BAD is the first that applies");
        for (int[] row : BAD_RULES) {
            // Every rule of the kind LATE would be refused: job 0 costs -3 at the least, and -3 is the cap.
            SplitJobPlanner x = new SplitJobPlanner(1, -3);
            x.addRuled(2, SIGNED, 5);
            due("setRule(0, LATE, 0, 1)", x.setRule(0, LATE, 0, 1), REFUSED);
            due("a bad rule that would be REFUSED", x.setRule(0, row[0], row[1], row[2]), BAD);
        }
        for (int weight : new int[] {0, 6}) {
            SplitJobPlanner x = new SplitJobPlanner(1, 5);
            x.add(0, 3);
            due("setRule(0, HARD, 2, " + weight + ")", x.setRule(0, HARD, 2, weight), BAD);
            due("setRule(0, HARD, 2, 1)", x.setRule(0, HARD, 2, 1), REFUSED);
        }
    }

    private static void setRuleRefusedWhen() {
        sentence("Promise 4: REFUSED when with the new rule there would be no good plan; otherwise OK");
        // kind, due, weight, the cost at 7, when the job ends at the earliest
        int[][] rules = {
            {LATE, 0, 1, 7}, {LATE, 0, 5, 35}, {LATE, 6, 5, 5}, {LATE, 7, 5, 0}, {LATE, 8, 5, 0}, {LATE, 30, 1, 0},
            {SIGNED, 0, 5, 35}, {SIGNED, 6, 4, 4}, {SIGNED, 7, 4, 0}, {SIGNED, 8, 4, -4}, {SIGNED, 30, 5, -115},
            {FINE, 6, 1, 20}, {FINE, 6, 5, 100}, {FINE, 7, 5, 0}, {FINE, 0, 3, 60}, {HARD, 0, 1, 1000},
            {HARD, 6, 5, 1000}, {HARD, 7, 5, 0}, {HARD, 30, 1, 0}
        };
        for (int cap = 7; cap <= 1000; cap++) {
            SplitJobPlanner x = new SplitJobPlanner(1, cap);
            x.add(4, 3);
            rulesAreJudged(x, cap, rules);
        }
        // kind, due, weight, the cost at 3: only a job of release 0 can come in under a cap below 0
        int[][] early = {
            {SIGNED, 2, 1, 1}, {SIGNED, 3, 5, 0}, {SIGNED, 4, 5, -5}, {SIGNED, 5, 1, -2}, {SIGNED, 30, 1, -27},
            {LATE, 3, 5, 0}, {FINE, 3, 5, 0}, {HARD, 3, 1, 0}, {SIGNED, 30, 5, -135}
        };
        for (int cap = -27; cap <= 7; cap++) {
            SplitJobPlanner x = new SplitJobPlanner(1, cap);
            due("addRuled(3, SIGNED, 30)", x.addRuled(3, SIGNED, 30), 0);
            rulesAreJudged(x, cap, early);
        }
        // Another job would cost too much.
        SplitJobPlanner y = new SplitJobPlanner(2, 0);
        y.addRuled(2, HARD, 4);
        y.addRuled(2, HARD, 2);
        due("both by 3", y.setRule(0, HARD, 3, 1), REFUSED);
        due("both by 4", y.setRule(1, HARD, 4, 1), OK);
        due("job 0 by 3", y.setRule(0, HARD, 3, 1), OK);
        due("job 0 by 1", y.setRule(0, HARD, 1, 1), REFUSED);
        due("job 0 by 2", y.setRule(0, HARD, 2, 1), OK);
        due("job 1 by 3", y.setRule(1, HARD, 3, 1), REFUSED);
    }

    private static void rulesAreJudged(SplitJobPlanner x, int cap, int[][] rules) {
        for (int[] rule : rules) {
            int got = x.setRule(0, rule[0], rule[1], rule[2]);
            due("setRule(0, " + rule[0] + ", " + rule[1] + ", " + rule[2] + ") with cap " + cap, got,
                rule[3] <= cap ? OK : REFUSED);
        }
    }

    private static void setRuleOkGivesTheRule() {
        sentence("Promise 4: gives job id the rule (kind, due, weight)");
        for (int id = 0; id < 5; id++) {
            SplitJobPlanner x = new SplitJobPlanner(5, 1000);
            for (int i = 0; i < 5; i++) {
                x.add(0, 1);
            }
            due("setRule(" + id + ", SIGNED, 30, 5)", x.setRule(id, SIGNED, 30, 5), OK);
            for (int i = 0; i < 5; i++) {
                due("costAt(" + i + ", 0)", x.costAt(i, 0), i == id ? -150 : 0);
                due("costAt(" + i + ", 60)", x.costAt(i, 60), i == id ? 150 : 60);
            }
            due("the same again", x.setRule(id, SIGNED, 30, 5), OK);
            due("costAt after the same again", x.costAt(id, 29), -5);
            due("setRule(" + id + ", HARD, 0, 1)", x.setRule(id, HARD, 0, 1), OK);
            due("worst()", x.worst(), 1000);
            due("setRule(" + id + ", LATE, 0, 1)", x.setRule(id, LATE, 0, 1), OK);
            due("worst()", x.worst(), 5);
        }
    }

    private static void setRuleNotOkChangesNothing() {
        sentence("Promise 4: a call that does not answer OK changes nothing");
        for (Supplier<SplitJobPlanner> start : starts()) {
            SplitJobPlanner held = start.get();
            unchangedBy(start, x -> {
                for (int id = 0; id < 5; id++) {
                    for (int[] row : BAD_RULES) {
                        due("a bad rule", x.setRule(id, row[0], row[1], row[2]), BAD);
                    }
                    if (holds(held, id)) {
                        due("setRule(" + id + ", HARD, 0, 1)", x.setRule(id, HARD, 0, 1), REFUSED);
                        due("setRule(" + id + ", FINE, 0, 5)", x.setRule(id, FINE, 0, 5), REFUSED);
                    }
                }
            });
        }
        unchangedBy(BoundaryTest::tightAndFull, x -> {
            due("setRule(1, LATE, 2, 4)", x.setRule(1, LATE, 2, 4), REFUSED);
            due("setRule(1, SIGNED, 2, 5)", x.setRule(1, SIGNED, 2, 5), REFUSED);
            due("setRule(2, LATE, 0, 2)", x.setRule(2, LATE, 0, 2), REFUSED);
        });
    }

    // ---- Promise 5

    private static void promise5() {
        linkBadWhenNoJob();
        linkBadWhenSame();
        linkOkWhenThereAlready();
        linkCycleWhen();
        linkNoCycleAlongWhatIsGone();
        linkCycleBeforeRefused();
        linkRefusedWhen();
        linkOnlyOkChanges();
    }

    private static void linkBadWhenNoJob() {
        sentence("Promise 5: BAD when i or j is no job's number");
        onStrangePairs("link", (x, i, j) -> x.link(i, j), BAD);
    }

    private static void linkBadWhenSame() {
        sentence("Promise 5: BAD when i = j");
        for (Supplier<SplitJobPlanner> start : starts()) {
            unchangedBy(start, x -> {
                for (int i : ANY) {
                    due("link(" + i + ", " + i + ")", x.link(i, i), BAD);
                }
            });
        }
    }

    private static void linkOkWhenThereAlready() {
        sentence("Promise 5: OK when the link is there already (nothing changes)");
        unchangedBy(BoundaryTest::mixed, x -> {
            due("link(0, 1)", x.link(0, 1), OK);
            due("link(2, 3)", x.link(2, 3), OK);
        });
        unchangedBy(BoundaryTest::tightAndFull, x -> {
            due("link(0, 1)", x.link(0, 1), OK);
            due("link(1, 2)", x.link(1, 2), OK);
        });
        SplitJobPlanner x = tightAndFull();
        for (int n = 0; n < 5; n++) {
            due("link(0, 1) again", x.link(0, 1), OK);
        }
        due("unlink(0, 1) once", x.unlink(0, 1), true);
        due("linked(0, 1)", x.linked(0, 1), false);
        due("unlink(0, 1) twice", x.unlink(0, 1), false);
    }

    private static void linkCycleWhen() {
        sentence("Promise 5: CYCLE when job i can be reached from job j along links");
        for (int code = 0; code < 3125; code++) {
            int[] path = {code / 625, code / 125 % 5, code / 25 % 5, code / 5 % 5, code % 5};
            if (Arrays.stream(path).distinct().count() == 5) {
                cyclesOnPath(path);
            }
        }
    }

    private static void cyclesOnPath(int[] path) {
        SplitJobPlanner x = new SplitJobPlanner(5, 1000);
        for (int i = 0; i < 5; i++) {
            x.add(0, 1);
        }
        // The links are made from the end, from the beginning, and then in the middle.
        for (int k : new int[] {3, 0, 2, 1}) {
            due("link along " + Arrays.toString(path), x.link(path[k], path[k + 1]), OK);
        }
        for (int from = 0; from < 5; from++) {
            for (int to = 0; to < from; to++) {
                String call = "link(" + path[from] + ", " + path[to] + ") against " + Arrays.toString(path);
                due(call, x.link(path[from], path[to]), CYCLE);
                due("linked after " + call, x.linked(path[from], path[to]), false);
            }
        }
        for (int from = 0; from < 5; from++) {
            for (int to = from + 1; to < 5; to++) {
                due("link along the path " + Arrays.toString(path), x.link(path[from], path[to]), OK);
            }
        }
    }

    private static void linkNoCycleAlongWhatIsGone() {
        sentence("Promise 5: no CYCLE when job i can't be reached from job j any more");
        for (int k = 0; k < 4; k++) {
            SplitJobPlanner x = fivePath();
            due("link(4, 0) against the path", x.link(4, 0), CYCLE);
            due("unlink(" + k + ", " + (k + 1) + ")", x.unlink(k, k + 1), true);
            due("link(4, 0) with the path cut", x.link(4, 0), OK);
            due("the cut link would close it", x.link(k, k + 1), CYCLE);
        }
        for (int k = 1; k < 4; k++) {
            SplitJobPlanner x = fivePath();
            due("remove(" + k + ")", x.remove(k), true);
            due("link(4, 0) without " + k, x.link(4, 0), OK);
            due("add(0, 1)", x.add(0, 1), k);
            due("link into the new job", x.link(k - 1, k), OK);
            due("link out of the new job", x.link(k, k + 1), CYCLE);
        }
        SplitJobPlanner y = new SplitJobPlanner(5, 1000);
        for (int i = 0; i < 4; i++) {
            y.add(0, 1);
        }
        due("link(0, 1)", y.link(0, 1), OK);
        due("link(0, 2)", y.link(0, 2), OK);
        due("two jobs after the same one", y.link(1, 2), OK);
        due("link(3, 1)", y.link(3, 1), OK);
        due("two jobs before the same one", y.link(3, 0), OK);
    }

    private static SplitJobPlanner fivePath() {
        SplitJobPlanner x = new SplitJobPlanner(5, 1000);
        for (int i = 0; i < 5; i++) {
            x.add(0, 1);
        }
        for (int i = 0; i < 4; i++) {
            x.link(i, i + 1);
        }
        return x;
    }

    private static void linkCycleBeforeRefused() {
        sentence("Promise 5: CYCLE before REFUSED, by the first that applies");
        SplitJobPlanner x = new SplitJobPlanner(2, 6);
        x.add(0, 3);
        x.add(3, 3);
        due("link(1, 0) has no good plan", x.link(1, 0), REFUSED);
        due("link(0, 1)", x.link(0, 1), OK);
        due("link(1, 0) has no good plan and is a cycle", x.link(1, 0), CYCLE);
        due("unlink(0, 1)", x.unlink(0, 1), true);
        due("link(1, 0) has no good plan", x.link(1, 0), REFUSED);
        due("link(2, 0) is bad before all", x.link(2, 0), BAD);
        due("link(1, 1) is bad before all", x.link(1, 1), BAD);
    }

    private static void linkRefusedWhen() {
        sentence("Promise 5: REFUSED when with the link there would be no good plan");
        for (int cap = 6; cap <= 20; cap++) {
            for (int r = 0; r <= 4; r++) {
                // Job 0 ends at r + 2 at the earliest, and job 1 three units later.
                SplitJobPlanner x = new SplitJobPlanner(2, cap);
                due("add(" + r + ", 2)", x.add(r, 2), 0);
                due("add(0, 3)", x.add(0, 3), 1);
                due("link(0, 1) with release " + r + " and cap " + cap, x.link(0, 1), r + 5 <= cap ? OK : REFUSED);
                due("linked(0, 1)", x.linked(0, 1), r + 5 <= cap);
            }
        }
        // Through a path: only the third job's cost is too great.
        SplitJobPlanner y = new SplitJobPlanner(3, 12);
        y.add(4, 2);
        y.add(0, 2);
        y.addRuled(2, HARD, 9);
        due("link(1, 2)", y.link(1, 2), OK);
        due("link(0, 1): 2 would end at 10", y.link(0, 1), REFUSED);
        due("setRule(2, HARD, 10, 1)", y.setRule(2, HARD, 10, 1), OK);
        due("link(0, 1): 2 ends at 10", y.link(0, 1), OK);
    }

    private static void linkOnlyOkChanges() {
        sentence("Promise 5: only OK can change anything");
        unchangedBy(BoundaryTest::mixed, x -> {
            due("link(1, 0)", x.link(1, 0), CYCLE);
            due("link(3, 2)", x.link(3, 2), CYCLE);
            due("link(0, 4)", x.link(0, 4), BAD);
            due("link(1, 1)", x.link(1, 1), BAD);
        });
        unchangedBy(BoundaryTest::tightAndFull, x -> {
            due("link(1, 0)", x.link(1, 0), CYCLE);
            due("link(2, 1)", x.link(2, 1), CYCLE);
            due("link(2, 0)", x.link(2, 0), CYCLE);
        });
        unchangedBy(BoundaryTest::tightWithoutLinks, x -> {
            due("link(1, 0)", x.link(1, 0), REFUSED);
            due("link(2, 1)", x.link(2, 1), REFUSED);
            due("link(2, 0)", x.link(2, 0), REFUSED);
        });
    }

    private static SplitJobPlanner tightWithoutLinks() {
        SplitJobPlanner x = new SplitJobPlanner(4, 6);
        x.add(0, 2);
        x.add(2, 2);
        x.add(4, 2);
        return x;
    }

    // ---- Promise 6

    private static void promise6() {
        unlinkTakesOneLinkAway();
        unlinkFalseWhenNoLink();
    }

    private static void unlinkTakesOneLinkAway() {
        sentence("Promise 6: takes the link from i to j away and answers true");
        for (int i = 0; i < 5; i++) {
            for (int j = i + 1; j < 5; j++) {
                SplitJobPlanner x = allLinks();
                due("unlink(" + i + ", " + j + ")", x.unlink(i, j), true);
                for (int k = 0; k < 5; k++) {
                    for (int m = 0; m < 5; m++) {
                        due("linked(" + k + ", " + m + ")", x.linked(k, m), k < m && (k != i || m != j));
                    }
                }
                due("unlink(" + i + ", " + j + ") again", x.unlink(i, j), false);
                due("link(" + i + ", " + j + ")", x.link(i, j), OK);
                same("unlink and link again", look(x), look(allLinks()));
            }
        }
        SplitJobPlanner y = fivePath();
        due("earliestFinish(4) along the path", y.earliestFinish(4), 5);
        due("unlink(1, 2)", y.unlink(1, 2), true);
        due("earliestFinish(4) along what is left", y.earliestFinish(4), 3);
        due("unlink(3, 4)", y.unlink(3, 4), true);
        due("earliestFinish(4) alone", y.earliestFinish(4), 1);
    }

    private static SplitJobPlanner allLinks() {
        SplitJobPlanner x = new SplitJobPlanner(5, 1000);
        for (int i = 0; i < 5; i++) {
            x.add(0, 1);
        }
        for (int i = 0; i < 5; i++) {
            for (int j = i + 1; j < 5; j++) {
                x.link(i, j);
            }
        }
        return x;
    }

    private static void unlinkFalseWhenNoLink() {
        sentence("Promise 6: false, changing nothing, when there is no such link");
        onStrangePairs("unlink", (x, i, j) -> bit(x.unlink(i, j)), NO);
        unchangedBy(BoundaryTest::allLinks, x -> {
            for (int i = 0; i < 5; i++) {
                for (int j = 0; j <= i; j++) {
                    due("unlink(" + i + ", " + j + ")", x.unlink(i, j), false);
                }
            }
        });
        unchangedBy(BoundaryTest::fivePath, x -> {
            due("unlink(0, 2), a path of two links", x.unlink(0, 2), false);
            due("unlink(0, 4), a path of four links", x.unlink(0, 4), false);
        });
        unchangedBy(BoundaryTest::gaps, x -> {
            due("unlink(0, 1), gone with 1", x.unlink(0, 1), false);
            due("unlink(3, 4), gone with 3", x.unlink(3, 4), false);
            due("unlink(2, 4), a path once", x.unlink(2, 4), false);
        });
    }

    // ---- Promise 7

    private static void promise7() {
        removeTakesTheJob();
        removeTakesAllLinks();
        removeFalseWhenNoJob();
    }

    private static void removeTakesTheJob() {
        sentence("Promise 7: takes job id away and answers true");
        for (int id = 0; id < 5; id++) {
            SplitJobPlanner x = new SplitJobPlanner(5, 5);
            for (int i = 0; i < 5; i++) {
                x.add(0, 1);
            }
            due("add(0, 1) when full", x.add(0, 1), FULL);
            due("remove(" + id + ")", x.remove(id), true);
            due("jobs()", x.jobs(), 31 - (1 << id));
            due("costAt(" + id + ", 0)", x.costAt(id, 0), NOTHING);
            due("span()", x.span(), 4);
            due("worst()", x.worst(), 4);
            due("remove(" + id + ") again", x.remove(id), false);
            due("its unit is free, two are not", x.add(0, 2), REFUSED);
            due("its unit and its number are free", x.add(0, 1), id);
        }
    }

    private static void removeTakesAllLinks() {
        sentence("Promise 7: with all its links");
        for (int id = 0; id < 5; id++) {
            SplitJobPlanner x = allLinks();
            due("remove(" + id + ")", x.remove(id), true);
            due("add(0, 1)", x.add(0, 1), id);
            for (int i = 0; i < 5; i++) {
                for (int j = 0; j < 5; j++) {
                    due("linked(" + i + ", " + j + ")", x.linked(i, j), i < j && i != id && j != id);
                    if (i == id || j == id) {
                        due("unlink(" + i + ", " + j + ")", x.unlink(i, j), false);
                    }
                }
            }
            due("earliestFinish of the new job", x.earliestFinish(id), 1);
            for (int i = 0; i < 5; i++) {
                if (i != id) {
                    due("couldPrecede(" + i + ", " + id + ")", x.couldPrecede(i, id), true);
                    due("couldPrecede(" + id + ", " + i + ")", x.couldPrecede(id, i), true);
                }
            }
        }
        // 0 -> 1 -> 2 without 1 leaves no order between 0 and 2.
        SplitJobPlanner y = tightAndFull();
        due("remove(1)", y.remove(1), true);
        due("linked(0, 2)", y.linked(0, 2), false);
        due("delay(0)", y.delay(0), 2);
    }

    private static void removeFalseWhenNoJob() {
        sentence("Promise 7: false, changing nothing, when no job holds the number");
        onStrangers("remove(id)", (x, id) -> bit(x.remove(id)), NO);
    }

    // ---- Promise 8

    private static void promise8() {
        sentence("Promise 8: bit i is set when a job holds i");
        for (int gone = 0; gone < 32; gone++) {
            SplitJobPlanner x = new SplitJobPlanner(5, 1000);
            for (int i = 0; i < 5; i++) {
                x.add(i, 1);
            }
            due("jobs() with all", x.jobs(), 31);
            for (int i = 0; i < 5; i++) {
                if ((gone >> i & 1) == 1) {
                    x.remove(i);
                }
            }
            due("jobs() without " + gone, x.jobs(), 31 - gone);
            due("jobs() again", x.jobs(), 31 - gone);
        }
        for (Supplier<SplitJobPlanner> start : starts()) {
            unchangedBy(start, x -> x.jobs());
        }
    }

    // ---- Promise 9

    private static void promise9() {
        sentence("Promise 9: whether there is a link from i to j");
        for (int i = 0; i < 5; i++) {
            for (int j = 0; j < 5; j++) {
                SplitJobPlanner x = new SplitJobPlanner(5, 1000);
                for (int k = 0; k < 5; k++) {
                    x.add(0, 1);
                }
                x.link(i, j);
                for (int k = 0; k < 5; k++) {
                    for (int m = 0; m < 5; m++) {
                        due("linked(" + k + ", " + m + ")", x.linked(k, m), i != j && k == i && m == j);
                    }
                }
            }
        }
        due("linked(0, 2) along a path", fivePath().linked(0, 2), false);
        sentence("Promise 9: false when i or j is no job's number");
        onStrangePairs("linked", (x, i, j) -> bit(x.linked(i, j)), NO);
        SplitJobPlanner y = allLinks();
        y.remove(2);
        for (int k = 0; k < 5; k++) {
            due("linked(2, " + k + ") without 2", y.linked(2, k), false);
            due("linked(" + k + ", 2) without 2", y.linked(k, 2), false);
        }
    }

    // ---- Promise 10

    private static void promise10() {
        sentence("Promise 10: NOTHING when no job holds the number");
        for (int t : new int[] {-1, 0, 30, 60, 61}) {
            onStrangers("costAt(id, " + t + ")", (x, id) -> x.costAt(id, t), NOTHING);
        }
        sentence("Promise 10: NOTHING when t is not 0 .. 60");
        for (int kind = LATE; kind <= HARD; kind++) {
            for (int id = 0; id < 5; id++) {
                SplitJobPlanner x = new SplitJobPlanner(5, 1000);
                for (int i = 0; i < 5; i++) {
                    x.addRuled(1, kind, 0);
                }
                for (int t : ANY) {
                    int late = kind == FINE ? 20 : kind == HARD ? 1000 : t;
                    int cost = t == 0 ? 0 : late;
                    due("costAt(" + id + ", " + t + ")", x.costAt(id, t), within(t, 0, 60) ? cost : NOTHING);
                }
            }
        }
        sentence("Promise 10: a question changes nothing");
        unchangedBy(BoundaryTest::mixed, x -> {
            for (int t = -1; t <= 61; t++) {
                x.costAt(1, t);
            }
        });
    }

    // ---- Promise 11

    private static void promise11() {
        sentence("Promise 11: NOTHING when there are no jobs");
        for (int capacity = 1; capacity <= 5; capacity++) {
            SplitJobPlanner x = new SplitJobPlanner(capacity, 1000);
            due("worst() of a new object", x.worst(), NOTHING);
            for (int i = 0; i < capacity; i++) {
                x.add(0, 1);
            }
            for (int i = 0; i < capacity; i++) {
                due("worst() with " + (capacity - i), x.worst(), capacity - i);
                x.remove(i);
            }
            due("worst() without the last", x.worst(), NOTHING);
        }
        sentence("Promise 11: the least, over all plans, of the greatest cost of the jobs");
        for (int d = 0; d <= 30; d++) {
            for (int w = 1; w <= 5; w++) {
                SplitJobPlanner x = new SplitJobPlanner(1, 1000);
                x.add(0, 1);
                x.setRule(0, SIGNED, d, w);
                due("worst() of SIGNED " + d + ", weight " + w, x.worst(), w * (1 - d));
                x.setRule(0, LATE, d, w);
                due("worst() of LATE " + d + ", weight " + w, x.worst(), d == 0 ? w : 0);
                x.setRule(0, FINE, d, w);
                due("worst() of FINE " + d + ", weight " + w, x.worst(), d == 0 ? 20 * w : 0);
                x.setRule(0, HARD, d, w);
                due("worst() of HARD " + d + ", weight " + w, x.worst(), d == 0 ? 1000 : 0);
            }
        }
        worstOfMany();
        sentence("Promise 11: a question changes nothing");
        for (Supplier<SplitJobPlanner> start : starts()) {
            unchangedBy(start, x -> x.worst());
        }
    }

    private static void worstOfMany() {
        // Five jobs of 3 units from 9 on with weight 5: the last ends at 24, the greatest cost beside a fine or HARD.
        SplitJobPlanner x = new SplitJobPlanner(5, 1000);
        for (int i = 0; i < 5; i++) {
            x.add(9, 3);
            x.setRule(i, SIGNED, 0, 5);
        }
        due("5 * 24", x.worst(), 120);
        for (int i = 0; i < 5; i++) {
            x.setRule(i, SIGNED, 30, 5);
        }
        due("5 * (24 - 30)", x.worst(), -30);
        x.setRule(3, HARD, 11, 1);
        due("one can't be in time", x.worst(), 1000);
        x.setRule(3, HARD, 12, 1);
        due("it is in time: cost 0, the others 5 * (24 - 30)", x.worst(), 0);
        // The cap is no part of the answer.
        for (int cap : new int[] {3, 4, 1000}) {
            SplitJobPlanner y = new SplitJobPlanner(2, cap);
            y.add(0, 1);
            y.add(0, 2);
            due("worst() with cap " + cap, y.worst(), 3);
        }
    }

    // ---- Promise 12

    private static void promise12() {
        sentence("Promise 12: NOTHING when no job holds the number");
        onStrangers("worstWithout(id)", (x, id) -> x.worstWithout(id), NOTHING);
        sentence("Promise 12: what worst() would answer, NOTHING too, if job id were not there");
        for (int id = 0; id < 5; id++) {
            SplitJobPlanner x = new SplitJobPlanner(5, 1000);
            for (int i = 0; i < 5; i++) {
                x.add(0, 1);
            }
            for (int i = 0; i < 5; i++) {
                if (i != id) {
                    x.remove(i);
                }
            }
            due("worstWithout of the only job, " + id, x.worstWithout(id), NOTHING);
            due("worst() with it", x.worst(), 1);
        }
        sentence("Promise 12: if job id and its links were not there");
        for (Supplier<SplitJobPlanner> start : starts()) {
            for (int id = 0; id < 5; id++) {
                SplitJobPlanner x = start.get();
                if (holds(x, id)) {
                    SplitJobPlanner without = start.get();
                    without.remove(id);
                    due("worstWithout(" + id + ")", x.worstWithout(id), without.worst());
                }
            }
        }
        // 0 -> 1 -> 2, and 2 alone could go first.
        SplitJobPlanner y = new SplitJobPlanner(3, 100);
        y.add(5, 1);
        y.add(0, 1);
        y.add(0, 1);
        y.link(0, 1);
        y.link(1, 2);
        y.setRule(2, LATE, 1, 5);
        due("worst(): 2 ends at 8, 5 * 7", y.worst(), 35);
        due("worstWithout(1): 2 ends at 1, 0 at 6", y.worstWithout(1), 6);
        due("worstWithout(0): 1 ends at 1, 2 at 2", y.worstWithout(0), 5);
        due("worstWithout(2): 1 ends at 7", y.worstWithout(2), 7);
        sentence("Promise 12: a question changes nothing");
        for (Supplier<SplitJobPlanner> start : starts()) {
            unchangedBy(start, x -> {
                for (int id = 0; id < 5; id++) {
                    x.worstWithout(id);
                }
            });
        }
    }

    // ---- Promise 13

    private static void promise13() {
        sentence("Promise 13: 0 when there are no jobs");
        for (int capacity = 1; capacity <= 5; capacity++) {
            SplitJobPlanner x = new SplitJobPlanner(capacity, 1000);
            due("span() of a new object", x.span(), 0);
            for (int i = 0; i < capacity; i++) {
                x.add(9, 3);
                due("span() with " + (i + 1), x.span(), 9 + 3 * (i + 1));
            }
            for (int i = 0; i < capacity; i++) {
                due("span() with " + (capacity - i), x.span(), 9 + 3 * (capacity - i));
                x.remove(i);
            }
            due("span() without the last", x.span(), 0);
        }
        sentence("Promise 13: the least time by which all jobs are finished in some plan (good or not)");
        SplitJobPlanner y = new SplitJobPlanner(5, 1000);
        y.add(0, 1);
        due("the least span of a job", y.span(), 1);
        y.add(9, 3);
        due("9 + 3", y.span(), 12);
        y.add(9, 1);
        due("9 + 3 + 1", y.span(), 13);
        y.link(1, 0);
        due("0 at the end", y.span(), 14);
        y.link(2, 1);
        due("in a row", y.span(), 14);
        y.setRule(0, HARD, 0, 5);
        due("whatever it costs", y.span(), 14);
        y.unlink(1, 0);
        due("0 at the beginning again", y.span(), 13);
        y.remove(1);
        due("9 + 1", y.span(), 10);
        y.remove(2);
        due("0 alone", y.span(), 1);
        sentence("Promise 13: a question changes nothing");
        for (Supplier<SplitJobPlanner> start : starts()) {
            unchangedBy(start, x -> x.span());
        }
    }

    // ---- Promise 14

    private static void promise14() {
        sentence("Promise 14: NOTHING when no job holds the number");
        onStrangers("earliestFinish(id)", (x, id) -> x.earliestFinish(id), NOTHING);
        sentence("Promise 14: the least finish of job id over all good plans");
        for (int r = 0; r <= 9; r++) {
            for (int p = 1; p <= 3; p++) {
                SplitJobPlanner x = new SplitJobPlanner(1, r + p);
                x.add(r, p);
                due("earliestFinish(0) at the cap", x.earliestFinish(0), r + p);
                SplitJobPlanner y = new SplitJobPlanner(1, 1000);
                y.add(r, p);
                due("earliestFinish(0) far below the cap", y.earliestFinish(0), r + p);
            }
        }
        // Job 1 must be over by its due; how much of job 0 fits before it hangs on that.
        for (int d = 2; d <= 8; d++) {
            SplitJobPlanner x = new SplitJobPlanner(2, 20);
            x.add(0, 3);
            x.addRuled(2, HARD, d);
            due("earliestFinish(0), job 1 by " + d, x.earliestFinish(0), d >= 5 ? 3 : 5);
            due("earliestFinish(1)", x.earliestFinish(1), 2);
        }
        // A plan in which job 1 is late costs 20, which the first cap allows and the second does not.
        for (int cap : new int[] {20, 19}) {
            SplitJobPlanner x = new SplitJobPlanner(2, cap);
            x.add(0, 3);
            x.addRuled(2, FINE, 2);
            due("earliestFinish(0) with cap " + cap, x.earliestFinish(0), cap == 20 ? 3 : 5);
        }
        SplitJobPlanner z = new SplitJobPlanner(5, 1000);
        for (int i = 0; i < 5; i++) {
            z.add(9, 3);
        }
        for (int i = 0; i < 4; i++) {
            z.link(i, i + 1);
        }
        due("the latest earliestFinish there is", z.earliestFinish(4), 24);
        sentence("Promise 14: a question changes nothing");
        for (Supplier<SplitJobPlanner> start : starts()) {
            unchangedBy(start, x -> {
                for (int id = 0; id < 5; id++) {
                    x.earliestFinish(id);
                }
            });
        }
    }

    // ---- Promise 15

    private static void promise15() {
        sentence("Promise 15: NOTHING when no job holds the number");
        onStrangers("delay(id)", (x, id) -> x.delay(id), NOTHING);
        sentence("Promise 15: the greatest number d from 0 to 9, the release may then be above 9");
        for (int r = 0; r <= 9; r++) {
            for (int p = 1; p <= 3; p++) {
                for (int spare = 0; spare <= 11; spare++) {
                    SplitJobPlanner x = new SplitJobPlanner(1, r + p + spare);
                    x.add(r, p);
                    due("delay(0) with " + spare + " to spare", x.delay(0), spare > 9 ? 9 : spare);
                    due("the release is as before", x.earliestFinish(0), r + p);
                }
            }
        }
        delayOnAPath();
        sentence("Promise 15: a question changes nothing");
        for (Supplier<SplitJobPlanner> start : starts()) {
            unchangedBy(start, x -> {
                for (int id = 0; id < 5; id++) {
                    x.delay(id);
                }
            });
        }
    }

    private static void delayOnAPath() {
        // The longest wait there is: release 9 + 9, then 15 units in a row.
        for (int cap = 24; cap <= 35; cap++) {
            for (int first = 0; first <= 4; first += 4) {
                int step = first == 0 ? 1 : -1;
                SplitJobPlanner x = new SplitJobPlanner(5, cap);
                for (int i = 0; i < 5; i++) {
                    x.add(9, 3);
                }
                for (int k = 0; k < 4; k++) {
                    x.link(first + k * step, first + (k + 1) * step);
                }
                int spare = cap - 24 > 9 ? 9 : cap - 24;
                due("delay of the first with cap " + cap, x.delay(first), spare);
                // The second can't begin before 12 anyway, and so on.
                due("delay of the second with cap " + cap, x.delay(first + step), spare + 3 > 9 ? 9 : spare + 3);
                due("delay of the last with cap " + cap, x.delay(4 - first), 9);
            }
        }
    }

    // ---- Promise 16

    private static void promise16() {
        sentence("Promise 16: whether link(i, j) would answer OK now");
        List<Supplier<SplitJobPlanner>> all = new ArrayList<>(starts());
        all.add(BoundaryTest::fivePath);
        all.add(BoundaryTest::allLinks);
        all.add(BoundaryTest::nearlyTight);
        all.add(BoundaryTest::tightWithoutLinks);
        for (Supplier<SplitJobPlanner> start : all) {
            for (int i : ANY) {
                for (int j : ANY) {
                    int answer = start.get().link(i, j);
                    due("couldPrecede(" + i + ", " + j + ")", start.get().couldPrecede(i, j), answer == OK);
                }
            }
        }
        couldPrecedeByHand();
        sentence("Promise 16: nothing changes");
        for (Supplier<SplitJobPlanner> start : all) {
            unchangedBy(start, x -> {
                for (int i = -1; i <= 5; i++) {
                    for (int j = -1; j <= 5; j++) {
                        x.couldPrecede(i, j);
                    }
                }
            });
        }
    }

    private static void couldPrecedeByHand() {
        SplitJobPlanner x = new SplitJobPlanner(4, 6);
        due("no jobs", x.couldPrecede(0, 1), false);
        x.add(0, 3);
        due("no job 1", x.couldPrecede(0, 1), false);
        due("the same job", x.couldPrecede(0, 0), false);
        x.add(3, 3);
        due("a good plan", x.couldPrecede(0, 1), true);
        due("no good plan", x.couldPrecede(1, 0), false);
        due("still no link", x.linked(0, 1), false);
        x.link(0, 1);
        due("there already", x.couldPrecede(0, 1), true);
        due("a cycle", x.couldPrecede(1, 0), false);
        onStrangePairs("couldPrecede", (y, i, j) -> bit(y.couldPrecede(i, j)), NO);
    }

    // ---- What it is

    private static void whatItIs() {
        sentence("What it is: an object is used for at most 512 calls");
        List<Call> calls = List.of(
            x -> x.add(1, 2), x -> x.add(9, 4), x -> x.addRuled(2, HARD, 10), x -> x.addRuled(1, HARD, 0),
            x -> x.setRule(0, FINE, 5, 2), x -> x.setRule(1, HARD, 0, 1), x -> x.link(1, 3), x -> x.link(1, 0),
            x -> bit(x.unlink(0, 1)), x -> bit(x.unlink(1, 0)), x -> bit(x.remove(2)), x -> bit(x.remove(4)),
            x -> x.jobs(), x -> bit(x.linked(2, 3)), x -> x.costAt(1, 9), x -> x.worst(), x -> x.worstWithout(1),
            x -> x.span(), x -> x.earliestFinish(3), x -> x.delay(2), x -> bit(x.couldPrecede(3, 0)));
        for (Call last : calls) {
            SplitJobPlanner asking = mixed();
            SplitJobPlanner changing = mixed();
            SplitJobPlanner refusing = mixed();
            for (int n = MIXED_CALLS; n < MOST_CALLS - 1; n++) {
                ask(asking, n);
                change(changing, n);
                refuse(refusing, n);
            }
            int want = last.on(mixed());
            due("call 512 after questions", last.on(asking), want);
            due("call 512 after changes", last.on(changing), want);
            due("call 512 after refusals", last.on(refusing), want);
        }
    }

    private static void ask(SplitJobPlanner x, int n) {
        switch (n % 6) {
            case 0: x.worst(); break;
            case 1: x.worstWithout(n % 4); break;
            case 2: x.span(); break;
            case 3: x.earliestFinish(n % 4); break;
            case 4: x.delay(n % 4); break;
            default: x.couldPrecede(n % 4, n % 3); break;
        }
    }

    /** Call n of 8 .. 510: rounds of seven calls that end as they began, and then six questions. */
    private static void change(SplitJobPlanner x, int n) {
        if (n >= 505) {
            due("jobs()", x.jobs(), 15);
            return;
        }
        switch (n % 7) {
            case 1: due("add(0, 1), call " + n, x.add(0, 1), 4); break;
            case 2: due("link(4, 0), call " + n, x.link(4, 0), OK); break;
            case 3: due("setRule(4, FINE, 9, 2), call " + n, x.setRule(4, FINE, 9, 2), OK); break;
            case 4: due("unlink(4, 0), call " + n, x.unlink(4, 0), true); break;
            case 5: due("link(3, 4), call " + n, x.link(3, 4), OK); break;
            case 6: due("remove(4), call " + n, x.remove(4), true); break;
            default: due("linked(3, 4), call " + n, x.linked(3, 4), false); break;
        }
    }

    private static void refuse(SplitJobPlanner x, int n) {
        switch (n % 7) {
            case 0: due("add(10, 1), call " + n, x.add(10, 1), BAD); break;
            case 1: due("addRuled(1, HARD, 0), call " + n, x.addRuled(1, HARD, 0), REFUSED); break;
            case 2: due("setRule(0, HARD, 2, 1), call " + n, x.setRule(0, HARD, 2, 1), REFUSED); break;
            case 3: due("link(1, 0), call " + n, x.link(1, 0), CYCLE); break;
            case 4: due("link(4, 0), call " + n, x.link(4, 0), BAD); break;
            case 5: due("unlink(1, 0), call " + n, x.unlink(1, 0), false); break;
            default: due("remove(4), call " + n, x.remove(4), false); break;
        }
    }
}
