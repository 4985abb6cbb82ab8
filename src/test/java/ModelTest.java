import java.util.ArrayList;
import java.util.Arrays;
import java.util.List;

/**
 * Long made-up runs of calls, each answer checked against a slow model that walks through all plans, unit by unit.
 * The model shares no idea with the program: it knows no deadlines and no order of urgency.
 *
 * There are three sorts of runs. The loose ones mix wild arguments in and ask a question here and there. The full ones
 * go on to the last call that the document speaks of and ask each question after every change. The watched ones make
 * changes alone, and after each change a new object that has gone through the same changes is asked everything: so
 * nothing that a question might leave behind can hide what a change did.
 */
public final class ModelTest {
    private static final int LOOSE_RUNS = 300;
    private static final int LOOSE_ROUNDS = 60;
    private static final int FULL_RUNS = 60;
    private static final int MOST_CALLS = 512;
    // One change and each of the nine questions.
    private static final int CALLS_IN_FULL_ROUND = 10;
    private static final int WATCHED_RUNS = 40;
    private static final int WATCHED_CHANGES = 50;
    private static final int OK = 0;
    private static final int BAD = -1;
    private static final int FULL = -2;
    private static final int REFUSED = -3;
    private static final int CYCLE = -4;
    private static final int NOTHING = -2000;
    private static final int NO_PLAN = Integer.MAX_VALUE;
    // No plan needs to go on longer: releases are at most 18 with delay, lengths 15 in all.
    private static final int END = 40;

    // What a mask or a shift would take for a small number, and the ends of int.
    private static final int[] WILD = {
        Integer.MIN_VALUE, Integer.MIN_VALUE + 1, -65536, -32, -31, -1, 5, 31, 32, 33, 34, 64, 256, 65536, 65537,
        Integer.MAX_VALUE - 1, Integer.MAX_VALUE
    };

    private static int wrong = 0;
    private static int calls = 0;
    private static long seed = 20261115L;

    /** What the document says, done in the most literal way. */
    private static final class Model {
        final int capacity;
        final int cap;
        boolean[] there = new boolean[5];
        int[] release = new int[5];
        int[] length = new int[5];
        int[] kind = new int[5];
        int[] due = new int[5];
        int[] weight = new int[5];
        boolean[][] link = new boolean[5][5];

        Model(int capacity, int cap) {
            this.capacity = Math.max(1, Math.min(5, capacity));
            this.cap = Math.max(-200, Math.min(1000, cap));
        }

        boolean has(int id) {
            return id >= 0 && id < 5 && there[id];
        }

        int cost(int id, int t) {
            switch (kind[id]) {
                case 0: return t > due[id] ? weight[id] * (t - due[id]) : 0;
                case 1: return weight[id] * (t - due[id]);
                case 2: return t > due[id] ? 20 * weight[id] : 0;
                default: return t > due[id] ? 1000 : 0;
            }
        }

        /** The least greatest cost over all plans in which job limited (if one is named) ends by limit. */
        int leastWorst(int limited, int limit) {
            int full = 0;
            for (int i = 0; i < 5; i++) {
                full += there[i] ? length[i] << (2 * i) : 0;
            }
            int[] best = new int[1024];
            Arrays.fill(best, NO_PLAN);
            best[full] = Integer.MIN_VALUE;
            for (int t = 0; t < END; t++) {
                int[] next = best.clone();
                for (int left = 0; left <= full; left++) {
                    if (best[left] != NO_PLAN) {
                        spread(best[left], next, left, t, limited, limit);
                    }
                }
                best = next;
            }
            return best[0];
        }

        private void spread(int sofar, int[] next, int left, int t, int limited, int limit) {
            for (int i = 0; i < 5; i++) {
                int units = left >> (2 * i) & 3;
                if (units == 0 || t < release[i] || waits(i, left)) {
                    continue;
                }
                int worst = sofar;
                if (units == 1) {
                    if (i == limited && t + 1 > limit) {
                        continue;
                    }
                    worst = Math.max(worst, cost(i, t + 1));
                }
                int then = left - (1 << (2 * i));
                next[then] = Math.min(next[then], worst);
            }
        }

        private boolean waits(int j, int left) {
            for (int i = 0; i < 5; i++) {
                if (link[i][j] && (left >> (2 * i) & 3) != 0) {
                    return true;
                }
            }
            return false;
        }

        boolean good() {
            return leastWorst(-1, 0) <= cap;
        }

        int add(int r, int p, int k, int d) {
            if (r < 0 || r > 9 || p < 1 || p > 3 || k < 0 || k > 3 || d < 0 || d > 30) {
                return BAD;
            }
            for (int id = 0; id < capacity; id++) {
                if (!there[id]) {
                    there[id] = true;
                    release[id] = r;
                    length[id] = p;
                    kind[id] = k;
                    due[id] = d;
                    weight[id] = 1;
                    if (good()) {
                        return id;
                    }
                    there[id] = false;
                    return REFUSED;
                }
            }
            return FULL;
        }

        int setRule(int id, int k, int d, int w) {
            if (!has(id) || k < 0 || k > 3 || d < 0 || d > 30 || w < 1 || w > 5) {
                return BAD;
            }
            int[] old = {kind[id], due[id], weight[id]};
            kind[id] = k;
            due[id] = d;
            weight[id] = w;
            if (good()) {
                return OK;
            }
            kind[id] = old[0];
            due[id] = old[1];
            weight[id] = old[2];
            return REFUSED;
        }

        boolean reaches(int from, int to) {
            if (from == to) {
                return true;
            }
            for (int k = 0; k < 5; k++) {
                if (link[from][k] && reaches(k, to)) {
                    return true;
                }
            }
            return false;
        }

        int link(int i, int j, boolean keep) {
            if (!has(i) || !has(j) || i == j) {
                return BAD;
            }
            if (link[i][j]) {
                return OK;
            }
            if (reaches(j, i)) {
                return CYCLE;
            }
            link[i][j] = true;
            boolean good = good();
            link[i][j] = good && keep;
            return good ? OK : REFUSED;
        }

        boolean unlink(int i, int j) {
            if (!linked(i, j)) {
                return false;
            }
            link[i][j] = false;
            return true;
        }

        boolean linked(int i, int j) {
            return has(i) && has(j) && link[i][j];
        }

        boolean remove(int id) {
            if (!has(id)) {
                return false;
            }
            there[id] = false;
            for (int k = 0; k < 5; k++) {
                link[id][k] = false;
                link[k][id] = false;
            }
            return true;
        }

        int jobs() {
            int answer = 0;
            for (int i = 0; i < 5; i++) {
                answer += there[i] ? 1 << i : 0;
            }
            return answer;
        }

        int costAt(int id, int t) {
            return has(id) && t >= 0 && t <= 60 ? cost(id, t) : NOTHING;
        }

        int worst() {
            return jobs() == 0 ? NOTHING : leastWorst(-1, 0);
        }

        int worstWithout(int id) {
            if (!has(id)) {
                return NOTHING;
            }
            Model other = new Model(capacity, cap);
            other.there = there.clone();
            other.release = release;
            other.length = length;
            other.kind = kind;
            other.due = due;
            other.weight = weight;
            for (int i = 0; i < 5; i++) {
                other.link[i] = link[i].clone();
            }
            other.remove(id);
            return other.worst();
        }

        /** Every job costs the time of its end: the least greatest cost is then the span. */
        int span() {
            if (jobs() == 0) {
                return 0;
            }
            Model other = new Model(capacity, cap);
            other.there = there;
            other.release = release;
            other.length = length;
            other.link = link;
            other.weight = new int[] {1, 1, 1, 1, 1};
            return other.leastWorst(-1, 0);
        }

        int earliestFinish(int id) {
            if (!has(id)) {
                return NOTHING;
            }
            int finish = 0;
            while (leastWorst(id, finish) > cap) {
                finish++;
            }
            return finish;
        }

        int delay(int id) {
            if (!has(id)) {
                return NOTHING;
            }
            int old = release[id];
            int answer = NOTHING;
            for (int d = 0; d <= 9; d++) {
                release[id] = old + d;
                if (good()) {
                    answer = d;
                }
            }
            release[id] = old;
            return answer;
        }
    }

    /** One call that may change something, to be made on an object, on the model, and on another object once more. */
    private static final class Change {
        final String name;
        final int[] with;

        Change(String name, int... with) {
            this.name = name;
            this.with = with;
        }

        @Override
        public String toString() {
            String list = Arrays.toString(with);
            return name + "(" + list.substring(1, list.length() - 1) + ")";
        }

        int on(SplitJobPlanner x) {
            switch (name) {
                case "add": return x.add(with[0], with[1]);
                case "addRuled": return x.addRuled(with[0], with[1], with[2]);
                case "setRule": return x.setRule(with[0], with[1], with[2], with[3]);
                case "link": return x.link(with[0], with[1]);
                case "unlink": return bit(x.unlink(with[0], with[1]));
                default: return bit(x.remove(with[0]));
            }
        }

        int on(Model m) {
            switch (name) {
                case "add": return m.add(with[0], with[1], 0, 0);
                case "addRuled": return m.add(0, with[0], with[1], with[2]);
                case "setRule": return m.setRule(with[0], with[1], with[2], with[3]);
                case "link": return m.link(with[0], with[1], true);
                case "unlink": return bit(m.unlink(with[0], with[1]));
                default: return bit(m.remove(with[0]));
            }
        }
    }

    private static int pick(int least, int most) {
        seed = seed * 6364136223846793005L + 1442695040888963407L;
        return least + (int) ((seed >>> 33) % (most - least + 1));
    }

    private static int number() {
        return pick(0, 19) == 0 ? pick(-2, 40) : wildAtTimes(pick(0, 4));
    }

    /** Mostly the number of a job, so that a run does more than go astray. */
    private static int heldNumber(Model m) {
        int id = number();
        for (int tries = 0; tries < 6 && !m.has(id); tries++) {
            id = number();
        }
        return id;
    }

    private static int wildAtTimes(int tame) {
        return pick(0, 39) == 0 ? WILD[pick(0, WILD.length - 1)] : tame;
    }

    private static int someCapacity() {
        return wildAtTimes(pick(0, 3) == 0 ? pick(-1, 7) : 5);
    }

    private static int someCap() {
        int[] caps = {pick(-210, 1010), pick(-40, 0), pick(0, 12), pick(10, 40), pick(15, 130), 1000};
        return wildAtTimes(caps[pick(0, 5)]);
    }

    /** Lets some jobs in, and most often not all that come. */
    private static int tightCap() {
        int[] caps = {pick(-12, 0), pick(2, 12), pick(8, 16), pick(12, 30), pick(20, 70), 1000};
        return caps[pick(0, 5)];
    }

    private static void due(String where, String call, int got, int want) {
        calls++;
        if (got != want) {
            wrong++;
            if (wrong <= 50) {
                System.out.println(where + ": " + call + " answered " + got + ", due is " + want);
            }
        }
    }

    private static int bit(boolean answer) {
        return answer ? 1 : 0;
    }

    public static void main(String[] args) {
        for (int run = 0; run < LOOSE_RUNS; run++) {
            looseRun("loose run " + run);
        }
        for (int run = 0; run < FULL_RUNS; run++) {
            fullRun("full run " + run);
        }
        for (int run = 0; run < WATCHED_RUNS; run++) {
            watchedRun("watched run " + run);
        }
        System.out.println(wrong == 0 ? "all answers are as due" : wrong + " answers are not as due");
        if (wrong != 0) {
            System.exit(1);
        }
    }

    private static void looseRun(String where) {
        int capacity = someCapacity();
        int cap = someCap();
        SplitJobPlanner x = new SplitJobPlanner(capacity, cap);
        Model m = new Model(capacity, cap);
        for (int round = 0; round < LOOSE_ROUNDS; round++) {
            change(where, looseChange(), x, m);
            askSome(where, x, m);
        }
    }

    private static void fullRun(String where) {
        int capacity = someCapacity();
        int cap = tightCap();
        SplitJobPlanner x = new SplitJobPlanner(capacity, cap);
        Model m = new Model(capacity, cap);
        calls = 0;
        while (calls + CALLS_IN_FULL_ROUND <= MOST_CALLS) {
            change(where + ", call " + (calls + 1), aimedChange(m), x, m);
            askEach(where + ", call " + (calls + 1), x, m);
        }
        while (calls < MOST_CALLS) {
            due(where + ", call " + (calls + 1), "worst()", x.worst(), m.worst());
        }
    }

    private static void watchedRun(String where) {
        int capacity = someCapacity();
        int cap = tightCap();
        SplitJobPlanner x = new SplitJobPlanner(capacity, cap);
        Model m = new Model(capacity, cap);
        List<Change> done = new ArrayList<>();
        for (int round = 1; round <= WATCHED_CHANGES; round++) {
            Change next = aimedChange(m);
            change(where + ", change " + round, next, x, m);
            done.add(next);
            SplitJobPlanner twin = new SplitJobPlanner(capacity, cap);
            for (Change one : done) {
                one.on(twin);
            }
            askAll(where + ", after change " + round + " " + next, twin, m);
        }
    }

    private static void change(String where, Change next, SplitJobPlanner x, Model m) {
        due(where, next.toString(), next.on(x), next.on(m));
    }

    private static Change looseChange() {
        return changeOf(pick(0, 35), number(), number());
    }

    private static Change aimedChange(Model m) {
        int what = pick(0, 35);
        int i = heldNumber(m);
        int j = heldNumber(m);
        // Most pairs are not linked: it takes some tries to find a link that can be undone.
        for (int tries = 0; isUnlink(what) && tries < 20 && !m.linked(i, j); tries++) {
            i = heldNumber(m);
            j = heldNumber(m);
        }
        return changeOf(what, i, j);
    }

    private static boolean isUnlink(int what) {
        return what >= 30 && what <= 33;
    }

    private static Change changeOf(int what, int i, int j) {
        int r = wildAtTimes(pick(0, 2) == 0 ? pick(-1, 10) : pick(0, 4));
        int p = wildAtTimes(pick(0, 9) == 0 ? pick(-1, 5) : pick(1, 3));
        int k = wildAtTimes(pick(0, 19) == 0 ? pick(-2, 6) : pick(0, 3));
        int d = wildAtTimes(pick(0, 3) == 0 ? pick(-2, 33) : pick(0, 16));
        int w = wildAtTimes(pick(0, 9) == 0 ? pick(-1, 7) : pick(1, 5));
        if (what < 6) {
            return new Change("add", r, p);
        }
        if (what < 12) {
            return new Change("addRuled", p, k, d);
        }
        if (what < 21) {
            return new Change("setRule", i, k, d, w);
        }
        if (what < 30) {
            return new Change("link", i, j);
        }
        return isUnlink(what) ? new Change("unlink", i, j) : new Change("remove", i);
    }

    private static void askSome(String where, SplitJobPlanner x, Model m) {
        int i = number();
        int j = number();
        askState(where, x, m, i, j);
        switch (pick(0, 5)) {
            case 0: askWorst(where, x, m); break;
            case 1: askWorstWithout(where, x, m, i); break;
            case 2: askSpan(where, x, m); break;
            case 3: askEarliestFinish(where, x, m, i); break;
            case 4: askDelay(where, x, m, i); break;
            default: askCouldPrecede(where, x, m, i, j); break;
        }
    }

    private static void askEach(String where, SplitJobPlanner x, Model m) {
        int i = heldNumber(m);
        int j = heldNumber(m);
        askState(where, x, m, i, j);
        askWorst(where, x, m);
        askWorstWithout(where, x, m, i);
        askSpan(where, x, m);
        askEarliestFinish(where, x, m, i);
        askDelay(where, x, m, i);
        askCouldPrecede(where, x, m, i, j);
    }

    /** The numbers go one beyond both ends. */
    private static void askAll(String where, SplitJobPlanner x, Model m) {
        askWorst(where, x, m);
        askSpan(where, x, m);
        for (int i = -1; i <= 5; i++) {
            askWorstWithout(where, x, m, i);
            askEarliestFinish(where, x, m, i);
            askDelay(where, x, m, i);
            for (int j = -1; j <= 5; j++) {
                askState(where, x, m, i, j);
                askCouldPrecede(where, x, m, i, j);
            }
        }
    }

    private static void askState(String where, SplitJobPlanner x, Model m, int i, int j) {
        due(where, "jobs()", x.jobs(), m.jobs());
        due(where, "linked(" + i + ", " + j + ")", bit(x.linked(i, j)), bit(m.linked(i, j)));
        int t = wildAtTimes(pick(-2, 63));
        due(where, "costAt(" + i + ", " + t + ")", x.costAt(i, t), m.costAt(i, t));
    }

    private static void askWorst(String where, SplitJobPlanner x, Model m) {
        due(where, "worst()", x.worst(), m.worst());
    }

    private static void askWorstWithout(String where, SplitJobPlanner x, Model m, int i) {
        due(where, "worstWithout(" + i + ")", x.worstWithout(i), m.worstWithout(i));
    }

    private static void askSpan(String where, SplitJobPlanner x, Model m) {
        due(where, "span()", x.span(), m.span());
    }

    private static void askEarliestFinish(String where, SplitJobPlanner x, Model m, int i) {
        due(where, "earliestFinish(" + i + ")", x.earliestFinish(i), m.earliestFinish(i));
    }

    private static void askDelay(String where, SplitJobPlanner x, Model m, int i) {
        due(where, "delay(" + i + ")", x.delay(i), m.delay(i));
    }

    private static void askCouldPrecede(String where, SplitJobPlanner x, Model m, int i, int j) {
        due(where, "couldPrecede(" + i + ", " + j + ")",
            bit(x.couldPrecede(i, j)), bit(m.link(i, j, false) == OK));
    }
}
