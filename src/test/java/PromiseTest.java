import java.lang.reflect.Constructor;
import java.lang.reflect.Field;
import java.lang.reflect.Method;
import java.lang.reflect.Modifier;
import java.util.Set;
import java.util.TreeSet;

/** One method for each promise, with answers worked out by hand from the document. */
public final class PromiseTest {
    private static final int LATE = 0;
    private static final int SIGNED = 1;
    private static final int FINE = 2;
    private static final int HARD = 3;
    private static final int OK = 0;
    private static final int BAD = -1;
    private static final int FULL = -2;
    private static final int REFUSED = -3;
    private static final int CYCLE = -4;
    private static final int NOTHING = -2000;
    private static final int[] NO_NUMBERS = {
        -1, 5, 6, 31, 32, 33, 64, -32, -31, 1000, Integer.MAX_VALUE, Integer.MIN_VALUE
    };

    private static int wrong = 0;
    private static String part = "";

    private static void due(String call, int got, int want) {
        if (got != want) {
            wrong++;
            System.out.println(part + ": " + call + " answered " + got + ", due is " + want);
        }
    }

    private static void due(String call, boolean got, boolean want) {
        if (got != want) {
            wrong++;
            System.out.println(part + ": " + call + " answered " + got + ", due is " + want);
        }
    }

    public static void main(String[] args) {
        face();
        newObject();
        add();
        addRuled();
        setRule();
        link();
        unlink();
        remove();
        jobs();
        linked();
        costAt();
        worst();
        worstWithout();
        span();
        earliestFinish();
        delay();
        couldPrecede();
        longPaths();
        manyCalls();
        readmeExample();
        System.out.println(wrong == 0 ? "all answers are as due" : wrong + " answers are not as due");
        if (wrong != 0) {
            System.exit(1);
        }
    }

    private static void face() {
        part = "face";
        Class<?> c = SplitJobPlanner.class;
        due("public final class", c.getModifiers(), Modifier.PUBLIC | Modifier.FINAL);
        due("nested classes", c.getDeclaredClasses().length, 0);
        Set<String> open = new TreeSet<>();
        for (Constructor<?> k : c.getDeclaredConstructors()) {
            if (!Modifier.isPrivate(k.getModifiers())) {
                open.add(k.toString());
            }
        }
        for (Method m : c.getDeclaredMethods()) {
            if (!Modifier.isPrivate(m.getModifiers())) {
                open.add(m.toString().replace("SplitJobPlanner.", ""));
            }
        }
        for (Field f : c.getDeclaredFields()) {
            if (!Modifier.isPrivate(f.getModifiers())) {
                open.add(f.toString().replace("SplitJobPlanner.", ""));
            }
        }
        Set<String> asked = new TreeSet<>(Set.of(
            "public SplitJobPlanner(int,int)", "public int add(int,int)", "public int addRuled(int,int,int)",
            "public int setRule(int,int,int,int)", "public int link(int,int)", "public boolean unlink(int,int)",
            "public boolean remove(int)", "public int jobs()", "public boolean linked(int,int)",
            "public int costAt(int,int)", "public int worst()", "public int worstWithout(int)", "public int span()",
            "public int earliestFinish(int)", "public int delay(int)", "public boolean couldPrecede(int,int)",
            "public static final int LATE", "public static final int SIGNED", "public static final int FINE",
            "public static final int HARD", "public static final int OK", "public static final int BAD",
            "public static final int FULL", "public static final int REFUSED", "public static final int CYCLE",
            "public static final int NOTHING"));
        if (!open.equals(asked)) {
            System.out.println("members that are not private: " + open);
        }
        due("members are those of the document", open.equals(asked), true);
        due("LATE", SplitJobPlanner.LATE, 0);
        due("SIGNED", SplitJobPlanner.SIGNED, 1);
        due("FINE", SplitJobPlanner.FINE, 2);
        due("HARD", SplitJobPlanner.HARD, 3);
        due("OK", SplitJobPlanner.OK, 0);
        due("BAD", SplitJobPlanner.BAD, -1);
        due("FULL", SplitJobPlanner.FULL, -2);
        due("REFUSED", SplitJobPlanner.REFUSED, -3);
        due("CYCLE", SplitJobPlanner.CYCLE, -4);
        due("NOTHING", SplitJobPlanner.NOTHING, -2000);
    }

    private static void newObject() {
        part = "promise 1";
        SplitJobPlanner x = new SplitJobPlanner(3, 50);
        due("jobs()", x.jobs(), 0);
        due("worst()", x.worst(), NOTHING);
        due("span()", x.span(), 0);
        int[][] capacities = {
            {Integer.MIN_VALUE, 1}, {-1, 1}, {0, 1}, {1, 1}, {2, 2}, {3, 3}, {4, 4}, {5, 5}, {6, 5}, {100, 5},
            {Integer.MAX_VALUE, 5}
        };
        for (int[] row : capacities) {
            SplitJobPlanner y = new SplitJobPlanner(row[0], 1000);
            for (int i = 0; i < row[1]; i++) {
                due("capacity " + row[0] + ": add(0, 1)", y.add(0, 1), i);
            }
            due("capacity " + row[0] + ": add(0, 1) too many", y.add(0, 1), FULL);
        }
        for (int cap : new int[] {1000, 1001, Integer.MAX_VALUE}) {
            SplitJobPlanner y = new SplitJobPlanner(1, cap);
            due("cap " + cap + ": addRuled(1, HARD, 0)", y.addRuled(1, HARD, 0), 0);
        }
        due("cap 999: addRuled(1, HARD, 0)", new SplitJobPlanner(1, 999).addRuled(1, HARD, 0), REFUSED);
        // The least cost of any job is 5 * (1 - 30), but one must come in with weight 1: 1 - 30.
        due("cap -29: addRuled(1, SIGNED, 30)", new SplitJobPlanner(1, -29).addRuled(1, SIGNED, 30), 0);
        for (int cap : new int[] {-30, -145, -200, -201, Integer.MIN_VALUE}) {
            SplitJobPlanner y = new SplitJobPlanner(1, cap);
            due("cap " + cap + ": addRuled(1, SIGNED, 30)", y.addRuled(1, SIGNED, 30), REFUSED);
        }
        due("cap 0: add(0, 1)", new SplitJobPlanner(1, 0).add(0, 1), REFUSED);
        due("cap 1: add(0, 1)", new SplitJobPlanner(1, 1).add(0, 1), 0);
        due("cap -1: addRuled(1, LATE, 30)", new SplitJobPlanner(1, -1).addRuled(1, LATE, 30), REFUSED);
        due("cap 0: addRuled(1, LATE, 30)", new SplitJobPlanner(1, 0).addRuled(1, LATE, 30), 0);
    }

    private static void add() {
        part = "promise 2";
        SplitJobPlanner x = new SplitJobPlanner(2, 1000);
        int[][] bad = {
            {-1, 1}, {10, 1}, {0, 0}, {0, 4}, {0, -1}, {Integer.MIN_VALUE, 1}, {Integer.MAX_VALUE, 1},
            {0, Integer.MIN_VALUE}, {0, Integer.MAX_VALUE}
        };
        for (int[] row : bad) {
            due("add(" + row[0] + ", " + row[1] + ")", x.add(row[0], row[1]), BAD);
        }
        due("jobs() after BAD", x.jobs(), 0);
        due("add(9, 3)", x.add(9, 3), 0);
        due("add(0, 1)", x.add(0, 1), 1);
        due("rule is LATE, 0, 1", x.costAt(0, 12), 12);
        due("rule is LATE, 0, 1", x.costAt(0, 0), 0);
        due("release 9, length 3", x.earliestFinish(0), 12);
        due("release 0, length 1", x.earliestFinish(1), 1);
        due("no links", x.linked(0, 1) || x.linked(1, 0), false);
        due("add when full", x.add(0, 1), FULL);
        due("BAD goes before FULL", x.add(10, 1), BAD);
        due("remove(0)", x.remove(0), true);
        due("the least free number", x.add(4, 2), 0);
        due("the new job's release and length", x.earliestFinish(0), 6);

        SplitJobPlanner y = new SplitJobPlanner(3, 5);
        due("add(2, 3)", y.add(2, 3), 0);
        due("add(0, 3): 6 units can't end by 5", y.add(0, 3), REFUSED);
        due("jobs() after REFUSED", y.jobs(), 1);
        due("worst() after REFUSED", y.worst(), 5);
        due("add(0, 2): 0 to 2", y.add(0, 2), 1);
        due("add(9, 1)", y.add(9, 1), REFUSED);

        SplitJobPlanner z = new SplitJobPlanner(1, 5);
        due("add(0, 3)", z.add(0, 3), 0);
        due("FULL goes before REFUSED", z.add(9, 3), FULL);
        due("jobs() after FULL", z.jobs(), 1);

        // A refused job leaves nothing behind in the number that the next job takes.
        SplitJobPlanner w = new SplitJobPlanner(2, 3);
        due("addRuled(3, SIGNED, 2)", w.addRuled(3, SIGNED, 2), 0);
        due("addRuled(3, SIGNED, 2) again", w.addRuled(3, SIGNED, 2), REFUSED);
        due("add(0, 1)", w.add(0, 1), 1);
        due("costAt(1, 1)", w.costAt(1, 1), 1);
        due("span()", w.span(), 4);
    }

    private static void addRuled() {
        part = "promise 3";
        SplitJobPlanner x = new SplitJobPlanner(4, 1000);
        int[][] bad = {
            {0, 0, 0}, {4, 0, 0}, {-1, 0, 0}, {1, -1, 0}, {1, 4, 0}, {1, 0, -1}, {1, 0, 31},
            {Integer.MAX_VALUE, 0, 0}, {Integer.MIN_VALUE, 0, 0}, {1, Integer.MAX_VALUE, 0},
            {1, Integer.MIN_VALUE, 0}, {1, 0, Integer.MAX_VALUE}, {1, 0, Integer.MIN_VALUE}
        };
        for (int[] row : bad) {
            due("addRuled(" + row[0] + ", " + row[1] + ", " + row[2] + ")", x.addRuled(row[0], row[1], row[2]), BAD);
        }
        due("jobs() after BAD", x.jobs(), 0);
        due("addRuled(3, LATE, 30)", x.addRuled(3, LATE, 30), 0);
        due("addRuled(1, SIGNED, 0)", x.addRuled(1, SIGNED, 0), 1);
        due("addRuled(2, FINE, 4)", x.addRuled(2, FINE, 4), 2);
        due("addRuled(2, HARD, 5)", x.addRuled(2, HARD, 5), 3);
        due("LATE 30 at 30", x.costAt(0, 30), 0);
        due("LATE 30 at 31", x.costAt(0, 31), 1);
        due("SIGNED 0 at 3", x.costAt(1, 3), 3);
        due("FINE 4 at 5, weight 1", x.costAt(2, 5), 20);
        due("HARD 5 at 6", x.costAt(3, 6), 1000);
        due("release 0, length 3", x.earliestFinish(0), 3);
        due("release 0, length 1", x.earliestFinish(1), 1);
        due("no links", x.linked(0, 1), false);
        due("FULL", x.addRuled(1, LATE, 0), FULL);
        due("BAD goes before FULL", x.addRuled(1, LATE, 31), BAD);
        due("remove(1)", x.remove(1), true);
        due("the least free number", x.addRuled(1, FINE, 1), 1);

        SplitJobPlanner y = new SplitJobPlanner(2, 0);
        due("addRuled(2, HARD, 1)", y.addRuled(2, HARD, 1), REFUSED);
        due("addRuled(2, HARD, 2)", y.addRuled(2, HARD, 2), 0);
        due("addRuled(1, HARD, 2)", y.addRuled(1, HARD, 2), REFUSED);
        due("addRuled(1, FINE, 2)", y.addRuled(1, FINE, 2), REFUSED);
        due("addRuled(1, SIGNED, 2)", y.addRuled(1, SIGNED, 2), REFUSED);
        due("addRuled(1, LATE, 2)", y.addRuled(1, LATE, 2), REFUSED);
        due("jobs() after REFUSED", y.jobs(), 1);
        due("addRuled(1, SIGNED, 3)", y.addRuled(1, SIGNED, 3), 1);
        due("FULL goes before REFUSED", y.addRuled(1, HARD, 0), FULL);
    }

    private static void setRule() {
        part = "promise 4";
        SplitJobPlanner x = new SplitJobPlanner(3, 100);
        due("setRule with no job", x.setRule(0, LATE, 0, 1), BAD);
        due("add(0, 2)", x.add(0, 2), 0);
        due("add(0, 2)", x.add(0, 2), 1);
        for (int id : NO_NUMBERS) {
            due("setRule(" + id + ", 0, 0, 1)", x.setRule(id, LATE, 0, 1), BAD);
        }
        due("setRule(2, 0, 0, 1)", x.setRule(2, LATE, 0, 1), BAD);
        int[][] bad = {
            {-1, 0, 1}, {4, 0, 1}, {0, -1, 1}, {0, 31, 1}, {0, 0, 0}, {0, 0, 6}, {0, 0, -1},
            {Integer.MAX_VALUE, 0, 1}, {Integer.MIN_VALUE, 0, 1}, {0, Integer.MAX_VALUE, 1},
            {0, Integer.MIN_VALUE, 1}, {0, 0, Integer.MAX_VALUE}, {0, 0, Integer.MIN_VALUE}
        };
        for (int[] row : bad) {
            due("setRule(0, " + row[0] + ", " + row[1] + ", " + row[2] + ")",
                x.setRule(0, row[0], row[1], row[2]), BAD);
        }
        due("rule after BAD", x.costAt(0, 7), 7);
        due("setRule(0, SIGNED, 30, 5)", x.setRule(0, SIGNED, 30, 5), OK);
        due("costAt(0, 0)", x.costAt(0, 0), -150);
        due("the other job keeps its rule", x.costAt(1, 7), 7);
        due("setRule(1, FINE, 2, 5)", x.setRule(1, FINE, 2, 5), OK);
        due("costAt(1, 3)", x.costAt(1, 3), 100);
        due("setRule(0, HARD, 2, 3)", x.setRule(0, HARD, 2, 3), OK);
        due("worst()", x.worst(), 100);
        due("both by 2", x.setRule(1, HARD, 2, 1), REFUSED);
        due("kind, due and weight after REFUSED", x.costAt(1, 3), 100);
        due("costAt(1, 2) after REFUSED", x.costAt(1, 2), 0);
        due("worst() after REFUSED", x.worst(), 100);
        due("HARD by 1", x.setRule(0, HARD, 1, 1), REFUSED);
        due("due after REFUSED", x.costAt(0, 2), 0);
        due("setRule(1, HARD, 4, 1)", x.setRule(1, HARD, 4, 1), OK);
        due("setRule(1, LATE, 0, 5): 4 * 5", x.setRule(1, LATE, 0, 5), OK);
        due("worst()", x.worst(), 20);

        SplitJobPlanner y = new SplitJobPlanner(1, 12);
        due("add(1, 3)", y.add(1, 3), 0);
        due("4 * 3 is not above 12", y.setRule(0, LATE, 0, 3), OK);
        due("4 * 4 is above 12", y.setRule(0, LATE, 0, 4), REFUSED);
        due("weight after REFUSED", y.costAt(0, 1), 3);
        due("BAD goes before REFUSED", y.setRule(0, LATE, 0, 6), BAD);
    }

    private static void link() {
        part = "promise 5";
        SplitJobPlanner x = new SplitJobPlanner(5, 1000);
        for (int i = 0; i < 4; i++) {
            due("add(0, 2)", x.add(0, 2), i);
        }
        for (int id : NO_NUMBERS) {
            due("link(" + id + ", 0)", x.link(id, 0), BAD);
            due("link(0, " + id + ")", x.link(0, id), BAD);
            due("link(" + id + ", " + id + ")", x.link(id, id), BAD);
        }
        due("link(4, 0)", x.link(4, 0), BAD);
        due("link(0, 4)", x.link(0, 4), BAD);
        for (int i = 0; i < 4; i++) {
            due("link to itself", x.link(i, i), BAD);
        }
        due("link(2, 1)", x.link(2, 1), OK);
        due("linked(2, 1)", x.linked(2, 1), true);
        due("linked(1, 2)", x.linked(1, 2), false);
        due("link(2, 1) again", x.link(2, 1), OK);
        due("link(1, 2)", x.link(1, 2), CYCLE);
        due("link(1, 3)", x.link(1, 3), OK);
        due("link(3, 0)", x.link(3, 0), OK);
        due("link(0, 2)", x.link(0, 2), CYCLE);
        due("linked(0, 2) after CYCLE", x.linked(0, 2), false);
        due("link(3, 2)", x.link(3, 2), CYCLE);
        due("along with a path", x.link(2, 0), OK);
        due("earliestFinish(0)", x.earliestFinish(0), 8);
        due("add(0, 2)", x.add(0, 2), 4);
        due("link(0, 4)", x.link(0, 4), OK);
        due("a path of four links", x.link(4, 2), CYCLE);
        due("span()", x.span(), 10);

        // 0 must end by 2 and 1 by 4: 1 after 0 has room, 0 after 1 has none.
        SplitJobPlanner y = new SplitJobPlanner(3, 0);
        due("addRuled(2, HARD, 2)", y.addRuled(2, HARD, 2), 0);
        due("addRuled(2, HARD, 4)", y.addRuled(2, HARD, 4), 1);
        due("link(1, 0)", y.link(1, 0), REFUSED);
        due("linked(1, 0) after REFUSED", y.linked(1, 0), false);
        due("link(0, 1)", y.link(0, 1), OK);
        due("CYCLE goes before REFUSED", y.link(1, 0), CYCLE);
        due("addRuled(1, HARD, 5)", y.addRuled(1, HARD, 5), 2);
        due("link(2, 1)", y.link(2, 1), REFUSED);
        due("link(1, 2)", y.link(1, 2), OK);

        // No unit of 1 may lie before the end of 0, so 1 can't use the units 0 .. 3 that 0 leaves.
        SplitJobPlanner z = new SplitJobPlanner(2, 1000);
        due("add(4, 2)", z.add(4, 2), 0);
        due("add(0, 3)", z.add(0, 3), 1);
        due("link(0, 1)", z.link(0, 1), OK);
        due("earliestFinish(1)", z.earliestFinish(1), 9);
        due("worst()", z.worst(), 9);
    }

    private static void unlink() {
        part = "promise 6";
        SplitJobPlanner x = new SplitJobPlanner(3, 1000);
        due("unlink(0, 1) with no jobs", x.unlink(0, 1), false);
        x.add(0, 1);
        x.add(0, 1);
        x.add(0, 1);
        due("unlink(0, 1) with no link", x.unlink(0, 1), false);
        x.link(0, 1);
        x.link(0, 2);
        x.link(1, 2);
        for (int id : NO_NUMBERS) {
            due("unlink(" + id + ", 1)", x.unlink(id, 1), false);
            due("unlink(0, " + id + ")", x.unlink(0, id), false);
            due("unlink(" + id + ", " + id + ")", x.unlink(id, id), false);
        }
        due("unlink(3, 1)", x.unlink(3, 1), false);
        due("unlink(1, 0)", x.unlink(1, 0), false);
        due("unlink(0, 0)", x.unlink(0, 0), false);
        due("linked(0, 1) after false", x.linked(0, 1), true);
        due("earliestFinish(1)", x.earliestFinish(1), 2);
        due("unlink(0, 1)", x.unlink(0, 1), true);
        due("linked(0, 1)", x.linked(0, 1), false);
        due("linked(0, 2) stays", x.linked(0, 2), true);
        due("linked(1, 2) stays", x.linked(1, 2), true);
        due("earliestFinish(1)", x.earliestFinish(1), 1);
        due("unlink(0, 1) again", x.unlink(0, 1), false);
        due("the other way round is free now", x.link(1, 0), OK);
        due("jobs()", x.jobs(), 7);
    }

    private static void remove() {
        part = "promise 7";
        SplitJobPlanner x = new SplitJobPlanner(4, 1000);
        due("remove(0) with no jobs", x.remove(0), false);
        x.add(0, 2);
        x.add(0, 3);
        x.add(1, 1);
        x.link(0, 1);
        x.link(1, 2);
        x.link(0, 2);
        for (int id : NO_NUMBERS) {
            due("remove(" + id + ")", x.remove(id), false);
        }
        due("remove(3)", x.remove(3), false);
        due("jobs() after false", x.jobs(), 7);
        due("remove(1)", x.remove(1), true);
        due("jobs()", x.jobs(), 5);
        due("remove(1) again", x.remove(1), false);
        due("linked(0, 2) stays", x.linked(0, 2), true);
        due("earliestFinish(2)", x.earliestFinish(2), 3);
        due("add(0, 1)", x.add(0, 1), 1);
        due("old link into 1", x.linked(0, 1), false);
        due("old link out of 1", x.linked(1, 2), false);
        due("earliestFinish(1)", x.earliestFinish(1), 1);
        due("link(2, 1) is no cycle", x.link(2, 1), OK);
        due("remove(0)", x.remove(0), true);
        due("remove(1)", x.remove(1), true);
        due("remove(2)", x.remove(2), true);
        due("jobs()", x.jobs(), 0);
        due("worst()", x.worst(), NOTHING);
    }

    private static void jobs() {
        part = "promise 8";
        SplitJobPlanner x = new SplitJobPlanner(5, 1000);
        due("jobs()", x.jobs(), 0);
        for (int i = 0; i < 5; i++) {
            x.add(9, 3);
            due("jobs() with " + (i + 1), x.jobs(), (2 << i) - 1);
        }
        x.remove(0);
        due("jobs() without 0", x.jobs(), 30);
        x.remove(3);
        due("jobs() without 0 and 3", x.jobs(), 22);
        x.add(0, 1);
        due("jobs() without 3", x.jobs(), 23);
        x.link(0, 1);
        x.setRule(0, HARD, 0, 1);
        due("jobs() after link and setRule", x.jobs(), 23);
    }

    private static void linked() {
        part = "promise 9";
        SplitJobPlanner x = new SplitJobPlanner(5, 1000);
        due("linked(0, 1) with no jobs", x.linked(0, 1), false);
        for (int i = 0; i < 5; i++) {
            x.add(0, 1);
        }
        x.link(0, 1);
        x.link(1, 4);
        x.link(3, 2);
        for (int i = -1; i <= 5; i++) {
            for (int j = -1; j <= 5; j++) {
                boolean want = i == 0 && j == 1 || i == 1 && j == 4 || i == 3 && j == 2;
                due("linked(" + i + ", " + j + ")", x.linked(i, j), want);
            }
        }
        for (int id : NO_NUMBERS) {
            due("linked(" + id + ", 1)", x.linked(id, 1), false);
            due("linked(0, " + id + ")", x.linked(0, id), false);
        }
        due("linked(32, 33)", x.linked(32, 33), false);
        x.remove(1);
        due("linked(0, 1) without 1", x.linked(0, 1), false);
        due("linked(1, 4) without 1", x.linked(1, 4), false);
        due("linked(3, 2)", x.linked(3, 2), true);
    }

    private static void costAt() {
        part = "promise 10";
        SplitJobPlanner x = new SplitJobPlanner(2, 1000);
        due("costAt(0, 0) with no jobs", x.costAt(0, 0), NOTHING);
        x.add(0, 1);
        for (int id : NO_NUMBERS) {
            due("costAt(" + id + ", 0)", x.costAt(id, 0), NOTHING);
        }
        due("costAt(1, 0)", x.costAt(1, 0), NOTHING);
        for (int t : new int[] {-1, 61, Integer.MAX_VALUE, Integer.MIN_VALUE}) {
            due("costAt(0, " + t + ")", x.costAt(0, t), NOTHING);
        }
        x.setRule(0, LATE, 7, 4);
        due("LATE at 0", x.costAt(0, 0), 0);
        due("LATE at due", x.costAt(0, 7), 0);
        due("LATE above due", x.costAt(0, 8), 4);
        due("LATE at 60", x.costAt(0, 60), 212);
        x.setRule(0, SIGNED, 7, 4);
        due("SIGNED at 0", x.costAt(0, 0), -28);
        due("SIGNED at 6", x.costAt(0, 6), -4);
        due("SIGNED at due", x.costAt(0, 7), 0);
        due("SIGNED above due", x.costAt(0, 8), 4);
        due("SIGNED at 60", x.costAt(0, 60), 212);
        x.setRule(0, FINE, 7, 4);
        due("FINE at 0", x.costAt(0, 0), 0);
        due("FINE at due", x.costAt(0, 7), 0);
        due("FINE above due", x.costAt(0, 8), 80);
        due("FINE at 60", x.costAt(0, 60), 80);
        x.setRule(0, HARD, 7, 4);
        due("HARD at 0", x.costAt(0, 0), 0);
        due("HARD at due", x.costAt(0, 7), 0);
        due("HARD above due", x.costAt(0, 8), 1000);
        due("HARD at 60", x.costAt(0, 60), 1000);
        x.setRule(0, LATE, 0, 5);
        due("LATE 0 weight 5 at 60", x.costAt(0, 60), 300);
    }

    private static void worst() {
        part = "promise 11";
        SplitJobPlanner x = new SplitJobPlanner(5, 1000);
        due("worst() with no jobs", x.worst(), NOTHING);
        x.addRuled(1, SIGNED, 30);
        due("1 - 30", x.worst(), -29);
        x.setRule(0, SIGNED, 30, 5);
        due("the least of all costs", x.worst(), -145);
        x.setRule(0, SIGNED, 0, 5);
        due("5 * 1", x.worst(), 5);
        x.setRule(0, HARD, 0, 1);
        due("the greatest of all costs", x.worst(), 1000);
        x.setRule(0, FINE, 0, 5);
        due("20 * 5", x.worst(), 100);

        // The long job must be interrupted: 1 is only in time if it gets unit 1.
        SplitJobPlanner y = new SplitJobPlanner(3, 1000);
        y.add(0, 3);
        y.add(1, 1);
        y.setRule(0, LATE, 4, 1);
        y.setRule(1, LATE, 2, 5);
        due("interrupted", y.worst(), 0);
        y.link(0, 1);
        due("linked: 1 ends at 4", y.worst(), 10);

        // Five jobs of 3 units from time 9 on: the last ends at 24.
        SplitJobPlanner z = new SplitJobPlanner(5, 1000);
        for (int i = 0; i < 5; i++) {
            z.add(9, 3);
            z.setRule(i, LATE, 0, 5);
        }
        due("5 * 24", z.worst(), 120);
        z.setRule(2, LATE, 0, 1);
        due("5 * 21", z.worst(), 105);
        due("asked again", z.worst(), 105);
    }

    private static void worstWithout() {
        part = "promise 12";
        SplitJobPlanner x = new SplitJobPlanner(4, 1000);
        due("worstWithout(0) with no jobs", x.worstWithout(0), NOTHING);
        x.add(0, 3);
        due("the only job", x.worstWithout(0), NOTHING);
        due("jobs()", x.jobs(), 1);
        x.add(5, 1);
        x.add(0, 1);
        x.link(0, 1);
        x.link(1, 2);
        for (int id : NO_NUMBERS) {
            due("worstWithout(" + id + ")", x.worstWithout(id), NOTHING);
        }
        due("worstWithout(3)", x.worstWithout(3), NOTHING);
        due("worst()", x.worst(), 7);
        due("without the middle of a path", x.worstWithout(1), 4);
        due("worstWithout(0)", x.worstWithout(0), 7);
        due("worstWithout(2)", x.worstWithout(2), 6);
        due("jobs() as before", x.jobs(), 7);
        due("links as before", x.linked(0, 1) && x.linked(1, 2), true);
        due("worst() as before", x.worst(), 7);
        // Without the middle 2 may go first.
        x.setRule(2, LATE, 1, 5);
        due("2 ends first", x.worstWithout(1), 4);
        due("2 ends at 7: 5 * 6", x.worst(), 30);
    }

    private static void span() {
        part = "promise 13";
        SplitJobPlanner x = new SplitJobPlanner(5, 1000);
        due("span() with no jobs", x.span(), 0);
        x.add(2, 2);
        due("2 + 2", x.span(), 4);
        x.add(0, 3);
        due("the idle units 0 and 1 are used", x.span(), 5);
        x.add(9, 1);
        due("9 + 1", x.span(), 10);
        x.link(2, 1);
        due("9 + 1 + 3", x.span(), 13);
        x.link(1, 0);
        due("9 + 1 + 3 + 2", x.span(), 15);
        x.add(9, 3);
        due("and 3", x.span(), 18);
        x.remove(2);
        due("3 + 2, then 9 + 3", x.span(), 12);

        SplitJobPlanner y = new SplitJobPlanner(2, 1000);
        y.add(0, 2);
        y.add(1, 2);
        y.setRule(0, HARD, 0, 1);
        due("costs do not matter", y.span(), 4);

        SplitJobPlanner z = new SplitJobPlanner(5, 1000);
        for (int i = 0; i < 5; i++) {
            z.add(9, 3);
        }
        due("9 + 15", z.span(), 24);
        z.remove(4);
        due("9 + 12", z.span(), 21);
    }

    private static void earliestFinish() {
        part = "promise 14";
        SplitJobPlanner x = new SplitJobPlanner(3, 1000);
        due("earliestFinish(0) with no jobs", x.earliestFinish(0), NOTHING);
        x.add(3, 2);
        x.add(0, 3);
        for (int id : NO_NUMBERS) {
            due("earliestFinish(" + id + ")", x.earliestFinish(id), NOTHING);
        }
        due("earliestFinish(2)", x.earliestFinish(2), NOTHING);
        due("3 + 2", x.earliestFinish(0), 5);
        due("0 + 3", x.earliestFinish(1), 3);
        x.link(0, 1);
        due("after 0", x.earliestFinish(1), 8);
        x.setRule(0, HARD, 4, 1);
        due("plans with cost 1000 are good for this cap", x.earliestFinish(1), 8);

        // Only good plans count: 1 must end by 3, so 0 can get one unit before that.
        SplitJobPlanner y = new SplitJobPlanner(3, 10);
        y.addRuled(3, HARD, 9);
        y.addRuled(2, HARD, 3);
        due("two units go to 1 first", y.earliestFinish(0), 5);
        due("0 can wait", y.earliestFinish(1), 2);
        y.addRuled(1, HARD, 3);
        due("three units go to others", y.earliestFinish(0), 6);
        due("1 first", y.earliestFinish(1), 2);
        due("2 first", y.earliestFinish(2), 1);

        // A job before it takes its units too, and the jobs before that one.
        SplitJobPlanner z = new SplitJobPlanner(5, 1000);
        for (int i = 0; i < 5; i++) {
            z.add(9, 3);
        }
        for (int i = 0; i < 4; i++) {
            z.link(i, i + 1);
        }
        due("the end of the longest path", z.earliestFinish(4), 24);
        due("its beginning", z.earliestFinish(0), 12);
    }

    private static void delay() {
        part = "promise 15";
        SplitJobPlanner x = new SplitJobPlanner(3, 12);
        due("delay(0) with no jobs", x.delay(0), NOTHING);
        x.add(0, 2);
        for (int id : NO_NUMBERS) {
            due("delay(" + id + ")", x.delay(id), NOTHING);
        }
        due("delay(1)", x.delay(1), NOTHING);
        due("10 would do, 9 is the most", x.delay(0), 9);
        x.setRule(0, LATE, 0, 2);
        due("by 6", x.delay(0), 4);
        due("the release is as before", x.earliestFinish(0), 2);
        x.setRule(0, LATE, 0, 5);
        due("by 2", x.delay(0), 0);
        x.setRule(0, LATE, 0, 1);
        x.add(3, 3);
        due("by 12 with 3 from 3 on", x.delay(0), 9);
        due("release 3 by 12", x.delay(1), 6);
        x.link(0, 1);
        due("0 before 1, 5 units by 12", x.delay(0), 7);
        due("1 from 9 on", x.delay(1), 6);

        // The release goes above 9: 9 + 9 + 3 is 21.
        SplitJobPlanner z = new SplitJobPlanner(5, 24);
        z.add(9, 3);
        due("9 + 9 + 3 by 24", z.delay(0), 9);
        SplitJobPlanner w = new SplitJobPlanner(5, 20);
        w.add(9, 3);
        due("9 + 8 + 3 by 20", w.delay(0), 8);
        due("delay(0) again", w.delay(0), 8);

        // The longest wait there is: a release of 18 and then 15 units.
        SplitJobPlanner v = new SplitJobPlanner(5, 33);
        for (int i = 0; i < 5; i++) {
            v.add(9, 3);
        }
        for (int i = 0; i < 4; i++) {
            v.link(i, i + 1);
        }
        due("18 + 15 by 33", v.delay(0), 9);
        SplitJobPlanner u = new SplitJobPlanner(5, 32);
        for (int i = 0; i < 5; i++) {
            u.add(9, 3);
        }
        for (int i = 0; i < 4; i++) {
            u.link(i, i + 1);
        }
        due("17 + 15 by 32", u.delay(0), 8);
        due("delay of the last: 18 + 3 is before 21 + 3", u.delay(4), 9);
    }

    private static void couldPrecede() {
        part = "promise 16";
        SplitJobPlanner x = new SplitJobPlanner(4, 0);
        due("couldPrecede(0, 1) with no jobs", x.couldPrecede(0, 1), false);
        x.addRuled(2, HARD, 2);
        x.addRuled(2, HARD, 4);
        x.addRuled(1, HARD, 6);
        for (int id : NO_NUMBERS) {
            due("couldPrecede(" + id + ", 0)", x.couldPrecede(id, 0), false);
            due("couldPrecede(0, " + id + ")", x.couldPrecede(0, id), false);
        }
        due("couldPrecede(3, 0)", x.couldPrecede(3, 0), false);
        due("couldPrecede(0, 3)", x.couldPrecede(0, 3), false);
        due("couldPrecede(1, 1)", x.couldPrecede(1, 1), false);
        due("no good plan", x.couldPrecede(1, 0), false);
        due("no good plan", x.couldPrecede(2, 0), false);
        due("a good plan", x.couldPrecede(0, 1), true);
        due("nothing changed", x.linked(0, 1), false);
        due("nothing changed after false", x.linked(1, 0), false);
        x.link(0, 1);
        due("the link is there", x.couldPrecede(0, 1), true);
        due("and stays", x.linked(0, 1), true);
        due("cycle", x.couldPrecede(1, 0), false);

        SplitJobPlanner y = new SplitJobPlanner(3, 1000);
        y.add(0, 1);
        y.add(0, 1);
        y.add(0, 1);
        y.link(0, 1);
        y.link(1, 2);
        due("a cycle of three", y.couldPrecede(2, 0), false);
        due("a shorter way", y.couldPrecede(0, 2), true);
        y.unlink(0, 1);
        due("no cycle any more", y.couldPrecede(2, 0), true);
    }

    /** Paths through all five jobs, up and down the numbers: what holds at one end must be felt at the other. */
    private static void longPaths() {
        part = "long paths";
        for (int first = 0; first <= 4; first += 4) {
            int step = first == 0 ? 1 : -1;
            int last = 4 - first;
            SplitJobPlanner x = new SplitJobPlanner(5, 1000);
            for (int i = 0; i < 5; i++) {
                x.add(i == first ? 9 : 0, 1);
            }
            for (int i = first; i != last; i += step) {
                due("link(" + i + ", " + (i + step) + ")", x.link(i, i + step), OK);
            }
            due("the last ends at 9 + 5", x.earliestFinish(last), 14);
            due("the first ends at 9 + 1", x.earliestFinish(first), 10);
            due("span()", x.span(), 14);
            due("worst()", x.worst(), 14);
            due("from last to first", x.link(last, first), CYCLE);
            due("couldPrecede(last, first)", x.couldPrecede(last, first), false);
            due("without the first", x.worstWithout(first), 4);
            due("the last must end by 14", x.setRule(last, HARD, 14, 1), OK);
            due("worst() with the last by 14", x.worst(), 13);
            due("the last can't end by 13", x.setRule(last, HARD, 13, 1), OK);
            due("worst() with the last by 13", x.worst(), 1000);
        }

        SplitJobPlanner y = new SplitJobPlanner(5, 20);
        for (int i = 0; i < 5; i++) {
            y.add(0, 1);
        }
        for (int i = 0; i < 4; i++) {
            y.link(i, i + 1);
        }
        due("the last by 8", y.setRule(4, HARD, 8, 1), OK);
        due("the first by 4", y.delay(0), 3);
        due("the last by 4", y.setRule(4, HARD, 4, 1), REFUSED);
        due("the last by 5", y.setRule(4, HARD, 5, 1), OK);
        due("the first by 1", y.delay(0), 0);
    }

    /** An object is used for up to 512 calls: the last ones must still answer as the document says. */
    private static void manyCalls() {
        part = "512 calls";
        SplitJobPlanner x = new SplitJobPlanner(5, 1000);
        for (int i = 0; i < 127; i++) {
            due("add(0, 1)", x.add(0, 1), 0);
            due("setRule(0, FINE, 0, 2)", x.setRule(0, FINE, 0, 2), OK);
            due("worst()", x.worst(), 40);
            due("remove(0)", x.remove(0), true);
        }
        due("add(4, 2)", x.add(4, 2), 0);
        due("add(0, 2)", x.add(0, 2), 1);
        due("link(0, 1)", x.link(0, 1), OK);
        due("worst()", x.worst(), 8);
    }

    /** The example of README.md, so that it stays true. */
    private static void readmeExample() {
        part = "README.md";
        SplitJobPlanner planner = new SplitJobPlanner(5, 12);
        int mill = planner.add(0, 3);
        due("mill", mill, 0);
        int drill = planner.add(1, 2);
        due("drill", drill, 1);
        due("setRule(drill, LATE, 3, 5)", planner.setRule(drill, LATE, 3, 5), OK);
        due("worst()", planner.worst(), 5);
        due("link(mill, drill)", planner.link(mill, drill), OK);
        due("worst() with the link", planner.worst(), 10);
        due("earliestFinish(drill)", planner.earliestFinish(drill), 5);
        due("delay(drill)", planner.delay(drill), 2);
        due("worstWithout(mill)", planner.worstWithout(mill), 0);
        due("link(drill, mill)", planner.link(drill, mill), CYCLE);
        due("setRule(drill, HARD, 4, 1)", planner.setRule(drill, HARD, 4, 1), REFUSED);
        due("worst() after a refusal", planner.worst(), 10);
    }
}
