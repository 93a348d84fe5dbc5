/** Admission of jobs with deadlines to one machine, with as few late ones as possible. */
public final class LateJobAdmit {
    public static final int BAD = -1;
    public static final int FULL = -2;
    public static final int NONE = -3;

    private static final int PLACES = 10;
    private static final int GREATEST_LENGTH = 50;
    private static final int GREATEST_DEADLINE = 200;

    // welcome() weighs one job more than there are places, so a place that no caller can name is kept for it.
    private static final int GUEST = PLACES;
    private static final int PLACES_AND_GUEST = PLACES + 1;

    private static final int SETS = 1 << PLACES;
    private static final int SETS_WITH_GUEST = 1 << PLACES_AND_GUEST;

    private final int[] lengths = new int[PLACES_AND_GUEST];
    private final int[] deadlines = new int[PLACES_AND_GUEST];

    // Sets as the document has them: bit i speaks of the job in place i. Only held jobs are ever in firmSet.
    private int heldSet;
    private int firmSet;

    public LateJobAdmit() {
        heldSet = 0;
        firmSet = 0;
    }

    public int put(int length, int deadline, boolean firm) {
        int place = smallestEmptyPlace();
        if (place >= PLACES) {
            return FULL;
        }
        if (!isJob(length, deadline)) {
            return BAD;
        }
        lengths[place] = length;
        deadlines[place] = deadline;
        heldSet |= 1 << place;
        setFirm(place, firm);
        return place;
    }

    public int drop(int i) {
        if (!holdsJob(i)) {
            return BAD;
        }
        takeAway(i);
        return sizeOf(heldSet);
    }

    public boolean makeFirm(int i, boolean firm) {
        if (!holdsJob(i)) {
            return false;
        }
        setFirm(i, firm);
        return true;
    }

    public int jobs() {
        return sizeOf(heldSet);
    }

    public boolean feasible(int set) {
        if (set < 0 || set >= SETS) {
            return false;
        }
        return isWithin(set, heldSet) && allInTime(set);
    }

    public int mostInTime() {
        return greatestGoodSize(heldSet, firmSet);
    }

    public int leastTime() {
        int size = greatestGoodSize(heldSet, firmSet);
        if (size == NONE) {
            return NONE;
        }
        return leastGoodTime(size);
    }

    public boolean affordable(int i) {
        if (!holdsJob(i)) {
            return false;
        }
        int sizeNow = greatestGoodSize(heldSet, firmSet);
        if (sizeNow == NONE) {
            return false;
        }
        // NONE, for jobs that would not be solvable any more, differs from every size.
        return greatestGoodSize(heldSet, firmSet | 1 << i) == sizeNow;
    }

    public boolean welcome(int length, int deadline) {
        if (!isJob(length, deadline)) {
            return false;
        }
        int sizeNow = greatestGoodSize(heldSet, firmSet);
        if (sizeNow == NONE) {
            return false;
        }
        // The guest never enters heldSet, so no other call sees what is left here.
        lengths[GUEST] = length;
        deadlines[GUEST] = deadline;
        return greatestGoodSize(heldSet | 1 << GUEST, firmSet) > sizeNow;
    }

    public int elapse(int t) {
        if (t < 0 || t > GREATEST_DEADLINE) {
            return BAD;
        }
        for (int place = 0; place < PLACES; place++) {
            if (isIn(place, heldSet)) {
                deadlines[place] -= t;
                if (deadlines[place] < 0) {
                    takeAway(place);
                }
            }
        }
        return sizeOf(heldSet);
    }

    private int smallestEmptyPlace() {
        int place = 0;
        while (place < PLACES && isIn(place, heldSet)) {
            place++;
        }
        return place;
    }

    private boolean holdsJob(int i) {
        return i >= 0 && i < PLACES && isIn(i, heldSet);
    }

    private void setFirm(int place, boolean firm) {
        if (firm) {
            firmSet |= 1 << place;
        } else {
            firmSet &= ~(1 << place);
        }
    }

    private void takeAway(int place) {
        heldSet &= ~(1 << place);
        firmSet &= ~(1 << place);
    }

    private int greatestGoodSize(int all, int firm) {
        // A part of a feasible set is feasible, so without the firm jobs alone there is no good set at all.
        if (!allInTime(firm)) {
            return NONE;
        }
        int greatest = sizeOf(firm);
        for (int set = 0; set < SETS_WITH_GUEST; set++) {
            if (isWithin(set, all) && isWithin(firm, set)) {
                int size = sizeOf(set);
                if (size > greatest && allInTime(set)) {
                    greatest = size;
                }
            }
        }
        return greatest;
    }

    private int leastGoodTime(int size) {
        int least = PLACES * GREATEST_LENGTH;
        for (int set = 0; set < SETS; set++) {
            if (isWithin(set, heldSet) && isWithin(firmSet, set) && sizeOf(set) == size) {
                // No job is due later than that, so this is the time of them all.
                int time = timeDueBy(set, GREATEST_DEADLINE);
                if (time < least && allInTime(set)) {
                    least = time;
                }
            }
        }
        return least;
    }

    // If any list has all of them in time, the one in order of deadlines has; and there, a job
    // waits for just those due no later than itself.
    private boolean allInTime(int set) {
        for (int place = 0; place < PLACES_AND_GUEST; place++) {
            if (isIn(place, set) && timeDueBy(set, deadlines[place]) > deadlines[place]) {
                return false;
            }
        }
        return true;
    }

    private int timeDueBy(int set, int deadline) {
        int time = 0;
        for (int place = 0; place < PLACES_AND_GUEST; place++) {
            if (isIn(place, set) && deadlines[place] <= deadline) {
                time += lengths[place];
            }
        }
        return time;
    }

    private static boolean isJob(int length, int deadline) {
        return length >= 1 && length <= GREATEST_LENGTH && deadline >= 0 && deadline <= GREATEST_DEADLINE;
    }

    private static boolean isIn(int place, int set) {
        return (set >> place & 1) == 1;
    }

    private static boolean isWithin(int part, int set) {
        return (part & ~set) == 0;
    }

    private static int sizeOf(int set) {
        int size = 0;
        for (int place = 0; place < PLACES_AND_GUEST; place++) {
            size += set >> place & 1;
        }
        return size;
    }
}
