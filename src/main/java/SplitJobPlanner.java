/** A planner for one machine whose jobs may be interrupted. */
public final class SplitJobPlanner {
    public static final int LATE = 0;
    public static final int SIGNED = 1;
    public static final int FINE = 2;
    public static final int HARD = 3;
    public static final int OK = 0;
    public static final int BAD = -1;
    public static final int FULL = -2;
    public static final int REFUSED = -3;
    public static final int CYCLE = -4;
    public static final int NOTHING = -2000;

    private static final int MOST_JOBS = 5;
    private static final int MOST_RELEASE = 9;
    private static final int MOST_LENGTH = 3;
    private static final int MOST_DUE = 30;
    private static final int MOST_WEIGHT = 5;
    private static final int MOST_DELAY = 9;
    private static final int MOST_ASKED_TIME = 60;

    private static final int LEAST_CAP = -200;
    private static final int MOST_CAP = 1000;
    private static final int FINE_UNIT = 20;
    private static final int HARD_COST = 1000;

    // No cost is below 5 * (0 - 30).
    private static final int BELOW_ALL_COSTS = -151;
    // BELOW_ALL_COSTS plus all the steps 1024, 512 .. 1 lies above HARD_COST, the greatest cost that a plan which ends
    // by HORIZON can have, so the search reaches every cost.
    private static final int FIRST_STEP = 1024;

    // Costs never fall with time, so idle time that no release forces can be taken out of a plan without harm.
    // What is left ends by the greatest release (9, and 9 more for delay) plus all the lengths (5 * 3).
    private static final int HORIZON = 33;

    private final int capacity;
    private final int cap;

    private int present = 0;
    private final int[] release = new int[MOST_JOBS];
    private final int[] length = new int[MOST_JOBS];
    private final int[] kindOf = new int[MOST_JOBS];
    private final int[] dueOf = new int[MOST_JOBS];
    private final int[] weightOf = new int[MOST_JOBS];
    // Bit j of after[i] is set when there is a link from i to j.
    private final int[] after = new int[MOST_JOBS];

    // Working room of one question; it means nothing between calls.
    private final int[] start = new int[MOST_JOBS];
    private final int[] deadline = new int[MOST_JOBS];
    private final int[] left = new int[MOST_JOBS];

    public SplitJobPlanner(int capacity, int cap) {
        this.capacity = clamp(capacity, 1, MOST_JOBS);
        this.cap = clamp(cap, LEAST_CAP, MOST_CAP);
    }

    public int add(int r, int p) {
        if (!isWithin(r, 0, MOST_RELEASE) || !isWithin(p, 1, MOST_LENGTH)) {
            return BAD;
        }
        return admit(r, p, LATE, 0);
    }

    public int addRuled(int p, int kind, int due) {
        if (!isWithin(p, 1, MOST_LENGTH) || !isRule(kind, due, 1)) {
            return BAD;
        }
        return admit(0, p, kind, due);
    }

    public int setRule(int id, int kind, int due, int weight) {
        if (!isPresent(id) || !isRule(kind, due, weight)) {
            return BAD;
        }
        int oldKind = kindOf[id];
        int oldDue = dueOf[id];
        int oldWeight = weightOf[id];
        putRule(id, kind, due, weight);
        if (!hasPlanWithin(cap)) {
            putRule(id, oldKind, oldDue, oldWeight);
            return REFUSED;
        }
        return OK;
    }

    public int link(int i, int j) {
        int answer = judgeLink(i, j);
        if (answer == OK) {
            after[i] |= 1 << j;
        }
        return answer;
    }

    public boolean unlink(int i, int j) {
        if (!isLink(i, j)) {
            return false;
        }
        after[i] &= ~(1 << j);
        return true;
    }

    public boolean remove(int id) {
        if (!isPresent(id)) {
            return false;
        }
        present &= ~(1 << id);
        after[id] = 0;
        for (int i = 0; i < MOST_JOBS; i++) {
            after[i] &= ~(1 << id);
        }
        return true;
    }

    public int jobs() {
        return present;
    }

    public boolean linked(int i, int j) {
        return isLink(i, j);
    }

    public int costAt(int id, int t) {
        if (!isPresent(id) || !isWithin(t, 0, MOST_ASKED_TIME)) {
            return NOTHING;
        }
        return cost(id, t);
    }

    public int worst() {
        return leastWorst();
    }

    public int worstWithout(int id) {
        if (!isPresent(id)) {
            return NOTHING;
        }
        present &= ~(1 << id);
        int answer = leastWorst();
        present |= 1 << id;
        return answer;
    }

    public int span() {
        spreadStarts();
        int answer = 0;
        // The machine that rests only while nothing can start ends here: after its last rest, at some job's start,
        // it has all the work that could not start before left to do, and no plan can do that work sooner.
        for (int i = 0; i < MOST_JOBS; i++) {
            if (isPresent(i)) {
                int end = start[i] + workFrom(start[i]);
                answer = end > answer ? end : answer;
            }
        }
        return answer;
    }

    public int earliestFinish(int id) {
        if (!isPresent(id)) {
            return NOTHING;
        }
        for (int finish = 1; finish < HORIZON; finish++) {
            setDeadlines(cap);
            if (finish < deadline[id]) {
                deadline[id] = finish;
            }
            if (deadlinesCanBeMet()) {
                return finish;
            }
        }
        return HORIZON;
    }

    public int delay(int id) {
        if (!isPresent(id)) {
            return NOTHING;
        }
        int oldRelease = release[id];
        int answer = 0;
        for (int d = 1; d <= MOST_DELAY; d++) {
            release[id] = oldRelease + d;
            if (hasPlanWithin(cap)) {
                answer = d;
            }
        }
        release[id] = oldRelease;
        return answer;
    }

    public boolean couldPrecede(int i, int j) {
        return judgeLink(i, j) == OK;
    }

    private static int clamp(int value, int least, int most) {
        if (value < least) {
            return least;
        }
        return value > most ? most : value;
    }

    private static boolean isWithin(int value, int least, int most) {
        return value >= least && value <= most;
    }

    private static boolean isRule(int kind, int due, int weight) {
        return isWithin(kind, LATE, HARD) && isWithin(due, 0, MOST_DUE) && isWithin(weight, 1, MOST_WEIGHT);
    }

    private boolean isPresent(int id) {
        return id >= 0 && id < MOST_JOBS && (present & (1 << id)) != 0;
    }

    private boolean isLink(int i, int j) {
        return isPresent(i) && isPresent(j) && (after[i] & (1 << j)) != 0;
    }

    /** The jobs linked after job i, of the present ones alone: worstWithout leaves the links of its job standing. */
    private int followers(int i) {
        return (present & (1 << i)) != 0 ? after[i] & present : 0;
    }

    private void putRule(int id, int kind, int due, int weight) {
        kindOf[id] = kind;
        dueOf[id] = due;
        weightOf[id] = weight;
    }

    private int admit(int r, int p, int kind, int due) {
        int id = leastFreeNumber();
        if (id >= capacity) {
            return FULL;
        }
        release[id] = r;
        length[id] = p;
        putRule(id, kind, due, 1);
        present |= 1 << id;
        if (!hasPlanWithin(cap)) {
            present &= ~(1 << id);
            return REFUSED;
        }
        return id;
    }

    /** Answers capacity when every number is held. */
    private int leastFreeNumber() {
        for (int id = 0; id < capacity; id++) {
            if (!isPresent(id)) {
                return id;
            }
        }
        return capacity;
    }

    /** What link(i, j) answers; changes nothing. */
    private int judgeLink(int i, int j) {
        if (!isPresent(i) || !isPresent(j) || i == j) {
            return BAD;
        }
        if (isLink(i, j)) {
            return OK;
        }
        if (isReachable(j, i)) {
            return CYCLE;
        }
        after[i] |= 1 << j;
        boolean good = hasPlanWithin(cap);
        after[i] &= ~(1 << j);
        return good ? OK : REFUSED;
    }

    private boolean isReachable(int from, int to) {
        int reached = 1 << from;
        // A shortest path has fewer links than there are jobs, and each round follows at least one more link.
        for (int round = 1; round < MOST_JOBS; round++) {
            for (int i = 0; i < MOST_JOBS; i++) {
                if ((reached & (1 << i)) != 0) {
                    reached |= after[i];
                }
            }
        }
        return (reached & (1 << to)) != 0;
    }

    private int cost(int id, int t) {
        int over = t - dueOf[id];
        if (kindOf[id] == SIGNED) {
            return weightOf[id] * over;
        }
        if (over <= 0) {
            return 0;
        }
        if (kindOf[id] == LATE) {
            return weightOf[id] * over;
        }
        return kindOf[id] == FINE ? FINE_UNIT * weightOf[id] : HARD_COST;
    }

    private int leastWorst() {
        if (present == 0) {
            return NOTHING;
        }
        // A bound that can be kept stays so when it grows; this finds the greatest one that can't be kept.
        int tooLow = BELOW_ALL_COSTS;
        for (int step = FIRST_STEP; step >= 1; step /= 2) {
            if (!hasPlanWithin(tooLow + step)) {
                tooLow += step;
            }
        }
        return tooLow + 1;
    }

    private boolean hasPlanWithin(int bound) {
        setDeadlines(bound);
        return deadlinesCanBeMet();
    }

    private void setDeadlines(int bound) {
        for (int i = 0; i < MOST_JOBS; i++) {
            deadline[i] = lastTimeWithin(i, bound);
        }
    }

    /** The last finish of the job whose cost is at most bound; 0, which no job can meet, when there is none. */
    private int lastTimeWithin(int id, int bound) {
        for (int t = HORIZON; t >= 1; t--) {
            if (cost(id, t) <= bound) {
                return t;
            }
        }
        return 0;
    }

    private boolean deadlinesCanBeMet() {
        spreadStarts();
        spreadDeadlines();
        return mostUrgentFirstIsInTime();
    }

    /** Lets every job start no earlier than the jobs before it can be over. */
    private void spreadStarts() {
        for (int i = 0; i < MOST_JOBS; i++) {
            start[i] = release[i];
        }
        // A path has at most MOST_JOBS - 1 links, so that many rounds carry a start along all of them.
        for (int round = 1; round < MOST_JOBS; round++) {
            for (int i = 0; i < MOST_JOBS; i++) {
                int next = followers(i);
                for (int j = 0; j < MOST_JOBS; j++) {
                    if ((next & (1 << j)) != 0 && start[j] < start[i] + length[i]) {
                        start[j] = start[i] + length[i];
                    }
                }
            }
        }
    }

    /** Lets every job end early enough for the jobs after it. */
    private void spreadDeadlines() {
        for (int round = 1; round < MOST_JOBS; round++) {
            for (int i = 0; i < MOST_JOBS; i++) {
                int next = followers(i);
                for (int j = 0; j < MOST_JOBS; j++) {
                    if ((next & (1 << j)) != 0 && deadline[i] > deadline[j] - length[j]) {
                        deadline[i] = deadline[j] - length[j];
                    }
                }
            }
        }
    }

    /**
     * Giving each unit to the startable job with the nearest deadline meets all deadlines if any plan does. It keeps
     * the links by itself: a job has a lesser start and a lesser deadline than every job after it, once both are spread.
     */
    private boolean mostUrgentFirstIsInTime() {
        int work = 0;
        for (int i = 0; i < MOST_JOBS; i++) {
            left[i] = isPresent(i) ? length[i] : 0;
            work += left[i];
        }
        for (int t = 0; t < HORIZON; t++) {
            int id = mostUrgent(t);
            if (id >= 0) {
                if (t >= deadline[id]) {
                    return false;
                }
                left[id]--;
                work--;
            }
        }
        return work == 0;
    }

    /** The job that gets unit t; -1 when none can use it. */
    private int mostUrgent(int t) {
        int best = -1;
        for (int i = 0; i < MOST_JOBS; i++) {
            if (left[i] > 0 && start[i] <= t && (best < 0 || deadline[i] < deadline[best])) {
                best = i;
            }
        }
        return best;
    }

    /** The units of all the jobs that can't start before time t. */
    private int workFrom(int t) {
        int work = 0;
        for (int i = 0; i < MOST_JOBS; i++) {
            if (isPresent(i) && start[i] >= t) {
                work += length[i];
            }
        }
        return work;
    }
}
