import java.util.Arrays;

/**
 * Long made-up runs of calls, each answer checked against a slow model that walks through all plans, unit by unit.
 * The model shares no idea with the program: it knows no deadlines and no order of urgency.
 */
public final class ModelTest {
    private static final int RUNS = 300;
    private static final int ROUNDS = 60;
    // Some runs go on to the last call that the document speaks of.
    private static final int FULL_RUNS = 60;
    private static final int MOST_CALLS = 512;
    // A round is one change and four questions at the most.
    private static final int CALLS_IN_ROUND = 5;
    private static final int OK = 0;
    private static final int BAD = -1;
    private static final int FULL = -2;
    private static final int REFUSED = -3;
    private static final int CYCLE = -4;
    private static final int NOTHING = -2000;
    private static final int NO_PLAN = Integer.MAX_VALUE;
    // No plan needs to go on longer: releases are at most 18 with delay, lengths 15 in all.
    private static final int END = 40;

    // What a mask or a shift would take for a small number, and the ends of int.
    private static final int[] WILD = {
        Integer.MIN_VALUE, Integer.MIN_VALUE + 1, -65536, -32, -31, -1, 5, 31, 32, 33, 34, 64, 256, 65536, 65537,
        Integer.MAX_VALUE - 1, Integer.MAX_VALUE
    };

    private static int wrong = 0;
    private static int calls = 0;
    private static long seed = 20261115L;

    /** What the document says, done in the most literal way. */
    private static final class Model {
        final int capacity;
        final int cap;
        boolean[] there = new boolean[5];
        int[] release = new int[5];
        int[] length = new int[5];
        int[] kind = new int[5];
        int[] due = new int[5];
        int[] weight = new int[5];
        boolean[][] link = new boolean[5][5];

        Model(int capacity, int cap) {
            this.capacity = Math.max(1, Math.min(5, capacity));
            this.cap = Math.max(-200, Math.min(1000, cap));
        }

        boolean has(int id) {
            return id >= 0 && id < 5 && there[id];
        }

        int cost(int id, int t) {
            switch (kind[id]) {
                case 0: return t > due[id] ? weight[id] * (t - due[id]) : 0;
                case 1: return weight[id] * (t - due[id]);
                case 2: return t > due[id] ? 20 * weight[id] : 0;
                default: return t > due[id] ? 1000 : 0;
            }
        }

        /** The least greatest cost over all plans in which job limited (if one is named) ends by limit. */
        int leastWorst(int limited, int limit) {
            int full = 0;
            for (int i = 0; i < 5; i++) {
                full += there[i] ? length[i] << (2 * i) : 0;
            }
            int[] best = new int[1024];
            Arrays.fill(best, NO_PLAN);
            best[full] = Integer.MIN_VALUE;
            for (int t = 0; t < END; t++) {
                int[] next = best.clone();
                for (int left = 0; left < 1024; left++) {
                    if (best[left] != NO_PLAN) {
                        spread(best[left], next, left, t, limited, limit);
                    }
                }
                best = next;
            }
            return best[0];
        }

        private void spread(int sofar, int[] next, int left, int t, int limited, int limit) {
            for (int i = 0; i < 5; i++) {
                int units = left >> (2 * i) & 3;
                if (units == 0 || t < release[i] || waits(i, left)) {
                    continue;
                }
                int worst = sofar;
                if (units == 1) {
                    if (i == limited && t + 1 > limit) {
                        continue;
                    }
                    worst = Math.max(worst, cost(i, t + 1));
                }
                int then = left - (1 << (2 * i));
                next[then] = Math.min(next[then], worst);
            }
        }

        private boolean waits(int j, int left) {
            for (int i = 0; i < 5; i++) {
                if (link[i][j] && (left >> (2 * i) & 3) != 0) {
                    return true;
                }
            }
            return false;
        }

        boolean good() {
            return leastWorst(-1, 0) <= cap;
        }

        int add(int r, int p, int k, int d) {
            if (r < 0 || r > 9 || p < 1 || p > 3 || k < 0 || k > 3 || d < 0 || d > 30) {
                return BAD;
            }
            for (int id = 0; id < capacity; id++) {
                if (!there[id]) {
                    there[id] = true;
                    release[id] = r;
                    length[id] = p;
                    kind[id] = k;
                    due[id] = d;
                    weight[id] = 1;
                    if (good()) {
                        return id;
                    }
                    there[id] = false;
                    return REFUSED;
                }
            }
            return FULL;
        }

        int setRule(int id, int k, int d, int w) {
            if (!has(id) || k < 0 || k > 3 || d < 0 || d > 30 || w < 1 || w > 5) {
                return BAD;
            }
            int[] old = {kind[id], due[id], weight[id]};
            kind[id] = k;
            due[id] = d;
            weight[id] = w;
            if (good()) {
                return OK;
            }
            kind[id] = old[0];
            due[id] = old[1];
            weight[id] = old[2];
            return REFUSED;
        }

        boolean reaches(int from, int to) {
            if (from == to) {
                return true;
            }
            for (int k = 0; k < 5; k++) {
                if (link[from][k] && reaches(k, to)) {
                    return true;
                }
            }
            return false;
        }

        int link(int i, int j, boolean keep) {
            if (!has(i) || !has(j) || i == j) {
                return BAD;
            }
            if (link[i][j]) {
                return OK;
            }
            if (reaches(j, i)) {
                return CYCLE;
            }
            link[i][j] = true;
            boolean good = good();
            link[i][j] = good && keep;
            return good ? OK : REFUSED;
        }

        boolean unlink(int i, int j) {
            if (!linked(i, j)) {
                return false;
            }
            link[i][j] = false;
            return true;
        }

        boolean linked(int i, int j) {
            return has(i) && has(j) && link[i][j];
        }

        boolean remove(int id) {
            if (!has(id)) {
                return false;
            }
            there[id] = false;
            for (int k = 0; k < 5; k++) {
                link[id][k] = false;
                link[k][id] = false;
            }
            return true;
        }

        int jobs() {
            int answer = 0;
            for (int i = 0; i < 5; i++) {
                answer += there[i] ? 1 << i : 0;
            }
            return answer;
        }

        int worst() {
            return jobs() == 0 ? NOTHING : leastWorst(-1, 0);
        }

        int worstWithout(int id) {
            if (!has(id)) {
                return NOTHING;
            }
            Model other = new Model(capacity, cap);
            other.there = there.clone();
            other.release = release;
            other.length = length;
            other.kind = kind;
            other.due = due;
            other.weight = weight;
            for (int i = 0; i < 5; i++) {
                other.link[i] = link[i].clone();
            }
            other.remove(id);
            return other.worst();
        }

        /** Every job costs the time of its end: the least greatest cost is then the span. */
        int span() {
            if (jobs() == 0) {
                return 0;
            }
            Model other = new Model(capacity, cap);
            other.there = there;
            other.release = release;
            other.length = length;
            other.link = link;
            other.weight = new int[] {1, 1, 1, 1, 1};
            return other.leastWorst(-1, 0);
        }

        int earliestFinish(int id) {
            if (!has(id)) {
                return NOTHING;
            }
            int finish = 0;
            while (leastWorst(id, finish) > cap) {
                finish++;
            }
            return finish;
        }

        int delay(int id) {
            if (!has(id)) {
                return NOTHING;
            }
            int old = release[id];
            int answer = NOTHING;
            for (int d = 0; d <= 9; d++) {
                release[id] = old + d;
                if (good()) {
                    answer = d;
                }
            }
            release[id] = old;
            return answer;
        }
    }

    private static int pick(int least, int most) {
        seed = seed * 6364136223846793005L + 1442695040888963407L;
        return least + (int) ((seed >>> 33) % (most - least + 1));
    }

    private static int number() {
        return pick(0, 19) == 0 ? pick(-2, 40) : wildAtTimes(pick(0, 4));
    }

    private static int wildAtTimes(int tame) {
        return pick(0, 39) == 0 ? WILD[pick(0, WILD.length - 1)] : tame;
    }

    private static void due(int run, String call, int got, int want) {
        calls++;
        if (got != want) {
            wrong++;
            if (wrong <= 50) {
                System.out.println("run " + run + ": " + call + " answered " + got + ", due is " + want);
            }
        }
    }

    private static int bit(boolean answer) {
        return answer ? 1 : 0;
    }

    public static void main(String[] args) {
        for (int run = 0; run < RUNS + FULL_RUNS; run++) {
            boolean isFull = run >= RUNS;
            int capacity = wildAtTimes(pick(0, 3) == 0 ? pick(-1, 7) : 5);
            int[] caps = {pick(-210, 1010), pick(-40, 0), pick(0, 12), pick(10, 40), pick(15, 130), 1000};
            int cap = wildAtTimes(caps[pick(0, 5)]);
            SplitJobPlanner x = new SplitJobPlanner(capacity, cap);
            Model m = new Model(capacity, cap);
            calls = 0;
            for (int round = 0; isFull ? calls + CALLS_IN_ROUND <= MOST_CALLS : round < ROUNDS; round++) {
                change(run, x, m);
                ask(run, x, m);
            }
            while (isFull && calls < MOST_CALLS) {
                due(run, "worst(), call " + (calls + 1), x.worst(), m.worst());
            }
        }
        System.out.println(wrong == 0 ? "all answers are as due" : wrong + " answers are not as due");
        if (wrong != 0) {
            System.exit(1);
        }
    }

    private static void change(int run, SplitJobPlanner x, Model m) {
        int i = number();
        int j = number();
        int r = wildAtTimes(pick(0, 2) == 0 ? pick(-1, 10) : pick(0, 4));
        int p = wildAtTimes(pick(0, 9) == 0 ? pick(-1, 5) : pick(1, 3));
        int k = wildAtTimes(pick(0, 19) == 0 ? pick(-2, 6) : pick(0, 3));
        int d = wildAtTimes(pick(0, 3) == 0 ? pick(-2, 33) : pick(0, 16));
        int w = wildAtTimes(pick(0, 9) == 0 ? pick(-1, 7) : pick(1, 5));
        switch (pick(0, 11)) {
            case 0: case 1:
                due(run, "add(" + r + ", " + p + ")", x.add(r, p), m.add(r, p, 0, 0));
                break;
            case 2: case 3:
                due(run, "addRuled(" + p + ", " + k + ", " + d + ")", x.addRuled(p, k, d), m.add(0, p, k, d));
                break;
            case 4: case 5: case 6:
                due(run, "setRule(" + i + ", " + k + ", " + d + ", " + w + ")",
                    x.setRule(i, k, d, w), m.setRule(i, k, d, w));
                break;
            case 7: case 8: case 9:
                due(run, "link(" + i + ", " + j + ")", x.link(i, j), m.link(i, j, true));
                break;
            case 10:
                due(run, "unlink(" + i + ", " + j + ")", bit(x.unlink(i, j)), bit(m.unlink(i, j)));
                break;
            default:
                if (pick(0, 2) == 0) {
                    due(run, "remove(" + i + ")", bit(x.remove(i)), bit(m.remove(i)));
                }
                break;
        }
    }

    private static void ask(int run, SplitJobPlanner x, Model m) {
        int i = number();
        int j = number();
        due(run, "jobs()", x.jobs(), m.jobs());
        due(run, "linked(" + i + ", " + j + ")", bit(x.linked(i, j)), bit(m.linked(i, j)));
        int t = wildAtTimes(pick(-2, 63));
        int cost = m.has(i) && t >= 0 && t <= 60 ? m.cost(i, t) : NOTHING;
        due(run, "costAt(" + i + ", " + t + ")", x.costAt(i, t), cost);
        switch (pick(0, 5)) {
            case 0:
                due(run, "worst()", x.worst(), m.worst());
                break;
            case 1:
                due(run, "worstWithout(" + i + ")", x.worstWithout(i), m.worstWithout(i));
                break;
            case 2:
                due(run, "span()", x.span(), m.span());
                break;
            case 3:
                due(run, "earliestFinish(" + i + ")", x.earliestFinish(i), m.earliestFinish(i));
                break;
            case 4:
                due(run, "delay(" + i + ")", x.delay(i), m.delay(i));
                break;
            default:
                due(run, "couldPrecede(" + i + ", " + j + ")", bit(x.couldPrecede(i, j)), bit(m.link(i, j, false) == OK));
                break;
        }
    }
}
