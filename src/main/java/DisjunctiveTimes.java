public final class DisjunctiveTimes {
    private static final int FEWEST_EVENTS = 2;
    private static final int MOST_EVENTS = 4;
    private static final int BITS_OF_A_TIME = 3;
    private static final int LAST_TIME = 7;
    private static final int GREATEST_BOUND = 10;
    private static final int MOST_CONSTRAINTS = 8;
    private static final int MOST_ALTERNATIVES = 3;

    // The draft has a slot of its own behind the list, so that one set of
    // methods serves it and the constraints alike.
    private static final int DRAFT = 8;
    private static final int SLOTS = 9;
    private static final int CELLS = 27;

    // No difference of two times is as low as this.
    private static final int NO_DIFFERENCE = -200;

    private final int[] alternatives = new int[SLOTS];
    private final int[] lefts = new int[CELLS];
    private final int[] rights = new int[CELLS];
    private final int[] bounds = new int[CELLS];
    private final int eventCount;
    private final int planCount;
    private int constraints = 0;

    public DisjunctiveTimes(int events) {
        int count = events;
        if (count < FEWEST_EVENTS) {
            count = FEWEST_EVENTS;
        }
        if (count > MOST_EVENTS) {
            count = MOST_EVENTS;
        }
        eventCount = count;
        planCount = 1 << (BITS_OF_A_TIME * count);
    }

    public int events() {
        return eventCount;
    }

    public int alternative(int i, int j, int k) {
        if (!isEventOrOrigin(i) || !isEventOrOrigin(j)) {
            return -1;
        }
        if (i == j) {
            return -2;
        }
        if (k < -GREATEST_BOUND || k > GREATEST_BOUND) {
            return -3;
        }
        if (alternatives[DRAFT] >= MOST_ALTERNATIVES) {
            return -4;
        }
        putAlternative(DRAFT, i, j, k);
        return alternatives[DRAFT];
    }

    public int clear() {
        int had = alternatives[DRAFT];
        alternatives[DRAFT] = 0;
        return had;
    }

    public int add() {
        if (alternatives[DRAFT] == 0) {
            return -1;
        }
        if (constraints >= MOST_CONSTRAINTS) {
            return -2;
        }
        copySlot(DRAFT, constraints);
        alternatives[DRAFT] = 0;
        constraints++;
        return constraints;
    }

    public int apart(int pair, int gap, int span) {
        // The shift keeps the sign, so a negative pair gives no good event.
        int i = pair >> 3;
        int j = pair & 7;
        if (!isEvent(i) || !isEvent(j)) {
            return -1;
        }
        if (i == j) {
            return -2;
        }
        if (gap < 0 || gap > LAST_TIME) {
            return -3;
        }
        if (span < 0 || span > LAST_TIME) {
            return -4;
        }
        if (constraints + 3 > MOST_CONSTRAINTS) {
            return -5;
        }
        startConstraint(i, j, -gap);
        putAlternative(constraints - 1, j, i, -gap);
        startConstraint(i, j, span);
        startConstraint(j, i, span);
        return constraints;
    }

    public int remove(int position) {
        if (!isPosition(position)) {
            return -1;
        }
        constraints--;
        for (int slot = position; slot < constraints; slot++) {
            copySlot(slot + 1, slot);
        }
        return constraints;
    }

    public int size() {
        return constraints;
    }

    public int solvable() {
        return firstSolution(0) >= 0 ? 1 : 0;
    }

    public int earliest(int event) {
        if (!isEvent(event)) {
            return -1;
        }
        // The origin's time is 0, so the least time is the greatest
        // difference the other way round.
        int difference = greatestDifference(eventCount, event);
        return difference == NO_DIFFERENCE ? -2 : -difference;
    }

    public int latest(int event) {
        if (!isEvent(event)) {
            return -1;
        }
        int difference = greatestDifference(event, eventCount);
        return difference == NO_DIFFERENCE ? -2 : difference;
    }

    public int widest(int i, int j) {
        if (!isEventOrOrigin(i) || !isEventOrOrigin(j)) {
            return -100;
        }
        int difference = greatestDifference(i, j);
        return difference == NO_DIFFERENCE ? -200 : difference;
    }

    public int next(int after) {
        // Looked at first, because one more than the greatest int wraps.
        if (after >= planCount - 1) {
            return -1;
        }
        return firstSolution(after < 0 ? 0 : after + 1);
    }

    public int meets(int number) {
        if (number < 0 || number >= planCount) {
            return -1;
        }
        return isSolution(number) ? 1 : 0;
    }

    public int shortest() {
        int least = -1;
        for (int plan = 0; plan < planCount; plan++) {
            if (isSolution(plan)) {
                int last = lastTime(plan);
                if (least < 0 || last < least) {
                    least = last;
                }
            }
        }
        return least;
    }

    public int entailed() {
        if (alternatives[DRAFT] == 0) {
            return -1;
        }
        for (int plan = 0; plan < planCount; plan++) {
            if (isSolution(plan) && !meetsSlot(plan, DRAFT)) {
                return 0;
            }
        }
        return 1;
    }

    public int redundant(int position) {
        if (!isPosition(position)) {
            return -1;
        }
        for (int plan = 0; plan < planCount; plan++) {
            if (!meetsSlot(plan, position) && meetsAllBut(plan, position)) {
                return 0;
            }
        }
        return 1;
    }

    public int excess() {
        int longest = 0;
        for (int plan = 0; plan < planCount; plan++) {
            int met = metFromTheStart(plan);
            if (met > longest) {
                longest = met;
            }
        }
        return constraints - longest;
    }

    private boolean isEvent(int event) {
        return event >= 0 && event < eventCount;
    }

    private boolean isEventOrOrigin(int event) {
        return event >= 0 && event <= eventCount;
    }

    private boolean isPosition(int position) {
        return position >= 0 && position < constraints;
    }

    private void putAlternative(int slot, int i, int j, int k) {
        int cell = MOST_ALTERNATIVES * slot + alternatives[slot];
        lefts[cell] = i;
        rights[cell] = j;
        bounds[cell] = k;
        alternatives[slot]++;
    }

    private void startConstraint(int i, int j, int k) {
        // A slot that was left by an earlier constraint still has its count.
        alternatives[constraints] = 0;
        putAlternative(constraints, i, j, k);
        constraints++;
    }

    private void copySlot(int from, int to) {
        int source = MOST_ALTERNATIVES * from;
        int target = MOST_ALTERNATIVES * to;
        for (int step = 0; step < MOST_ALTERNATIVES; step++) {
            lefts[target + step] = lefts[source + step];
            rights[target + step] = rights[source + step];
            bounds[target + step] = bounds[source + step];
        }
        alternatives[to] = alternatives[from];
    }

    private int timeIn(int plan, int event) {
        if (event == eventCount) {
            return 0;
        }
        // Event 0 is the first digit, so it stands in the highest bits.
        int shift = BITS_OF_A_TIME * (eventCount - 1 - event);
        return (plan >> shift) & LAST_TIME;
    }

    private int lastTime(int plan) {
        int last = 0;
        for (int event = 0; event < eventCount; event++) {
            int time = timeIn(plan, event);
            if (time > last) {
                last = time;
            }
        }
        return last;
    }

    private boolean meetsSlot(int plan, int slot) {
        int start = MOST_ALTERNATIVES * slot;
        int end = start + alternatives[slot];
        for (int cell = start; cell < end; cell++) {
            int difference = timeIn(plan, lefts[cell]) - timeIn(plan, rights[cell]);
            if (difference <= bounds[cell]) {
                return true;
            }
        }
        return false;
    }

    private boolean meetsAllBut(int plan, int position) {
        for (int slot = 0; slot < constraints; slot++) {
            if (slot != position && !meetsSlot(plan, slot)) {
                return false;
            }
        }
        return true;
    }

    private int metFromTheStart(int plan) {
        int met = 0;
        while (met < constraints && meetsSlot(plan, met)) {
            met++;
        }
        return met;
    }

    private boolean isSolution(int plan) {
        for (int slot = 0; slot < constraints; slot++) {
            if (!meetsSlot(plan, slot)) {
                return false;
            }
        }
        return true;
    }

    private int firstSolution(int from) {
        for (int plan = from; plan < planCount; plan++) {
            if (isSolution(plan)) {
                return plan;
            }
        }
        return -1;
    }

    private int greatestDifference(int i, int j) {
        int greatest = NO_DIFFERENCE;
        for (int plan = 0; plan < planCount; plan++) {
            if (isSolution(plan)) {
                int difference = timeIn(plan, i) - timeIn(plan, j);
                if (difference > greatest) {
                    greatest = difference;
                }
            }
        }
        return greatest;
    }
}
