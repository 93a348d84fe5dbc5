import java.util.ArrayList;
import java.util.List;
import java.util.function.Supplier;
import java.util.function.ToIntFunction;

/**
 * Each sentence of the document that names a boundary case, by a test of its own: the last value inside
 * a bound and the first one outside it, on both sides, the smallest and the greatest int, and that a
 * refused call leaves every other answer as it was.
 */
public final class BoundaryTest {
    private static final int BAD = LateJobAdmit.BAD;
    private static final int FULL = LateJobAdmit.FULL;
    private static final int NONE = LateJobAdmit.NONE;
    private static final int MIN = Integer.MIN_VALUE;
    private static final int MAX = Integer.MAX_VALUE;

    // After the first values outside and the ends of int come some that a shift, a mask or
    // a narrower type would take for values inside.
    private static final int[] OUTSIDE_PLACES = {-1, 10, MIN, MAX, 11, 31, 32, 41, 42, -23, -32, 256, 65536};
    private static final int[] OUTSIDE_LENGTHS = {0, 51, MIN, MAX, -1, 52, -50, 257, 65537};
    private static final int[] OUTSIDE_DEADLINES = {-1, 201, MIN, MAX, -200, 202, 256, 65536};
    private static final int[] OUTSIDE_SETS = {-1, 1024, MIN, MAX, 1025, 2047, 2048, -1024, -1023, 65536, MIN + 1};
    private static final int[] OUTSIDE_TIMES = {-1, 201, MIN, MAX, -200, 202, 256, 65536};

    private static final List<State> STATES = List.of(
        new State("new", LateJobAdmit::new),
        new State("gaps", BoundaryTest::withGaps),
        new State("one place left", BoundaryTest::withOnePlaceLeft),
        new State("full", BoundaryTest::full),
        new State("not solvable", BoundaryTest::notSolvable),
        new State("full and not solvable", BoundaryTest::fullAndNotSolvable),
        new State("elapsed", BoundaryTest::withElapsed),
        new State("emptied", BoundaryTest::emptied));

    private static String sentence = "";
    private static int wrong = 0;

    private record State(String name, Supplier<LateJobAdmit> maker) {
        LateJobAdmit make() {
            return maker.get();
        }
    }

    private record Job(int length, int deadline, boolean isFirm) {
    }

    public static void main(String[] args) {
        whatItIs();
        terms();
        promise1();
        promise2();
        promise3();
        promise4();
        promise5();
        promise6();
        promise7();
        promise8();
        promise9();
        promise10();
        promise11();
        System.out.println(wrong == 0 ? "all answers are as due" : wrong + " answers are not as due");
        if (wrong != 0) {
            System.exit(1);
        }
    }

    // ---- What it is

    private static void whatItIs() {
        usedFor512Calls();
        each512thCall();
        objectsAreApart();
    }

    private static void usedFor512Calls() {
        sentence = "An object is used for at most 512 calls";
        LateJobAdmit x = new LateJobAdmit();
        for (int round = 0; round < 128; round++) {
            due("put, round " + round, x.put(5, 10, true), 0);
            due("mostInTime, round " + round, x.mostInTime(), 1);
            due("jobs, round " + round, x.jobs(), 1);
            due("drop, round " + round, x.drop(0), 0);
        }
    }

    private static void each512thCall() {
        sentence = "An object is used for at most 512 calls (the last one)";
        due("put", used511Times().put(1, 1, false), 2);
        due("drop", used511Times().drop(1), 1);
        due("makeFirm", used511Times().makeFirm(1, true), true);
        due("jobs", used511Times().jobs(), 2);
        due("feasible", used511Times().feasible(3), true);
        due("mostInTime", used511Times().mostInTime(), 2);
        due("leastTime", used511Times().leastTime(), 9);
        due("affordable", used511Times().affordable(1), true);
        due("welcome", used511Times().welcome(1, 10), true);
        due("elapse", used511Times().elapse(10), 1);
    }

    private static LateJobAdmit used511Times() {
        LateJobAdmit x = machine(job(5, 9), job(4, 20));
        for (int call = 3; call <= 511; call++) {
            x.makeFirm(0, call % 2 == 0);
        }
        return x;
    }

    private static void objectsAreApart() {
        sentence = "A new object has no jobs, whatever others have";
        LateJobAdmit other = full();
        LateJobAdmit x = new LateJobAdmit();
        due("jobs", x.jobs(), 0);
        x.put(50, 200, true);
        due("jobs of the other", other.jobs(), 10);
        due("drop in the other", other.drop(0), 9);
        due("jobs", x.jobs(), 1);
    }

    // ---- Terms

    private static void terms() {
        upToTenJobs();
        lengthBounds();
        deadlineBounds();
        inTimeAtItsDeadline();
        inTimeByTheSumUpToIt();
        listOfDifferentJobs();
        feasibleInSomeOrder();
        emptySetIsFeasible();
        solvableAtTheDeadline();
        solvableWithoutFirmJobs();
        goodSetHasAllFirmJobs();
    }

    private static void upToTenJobs() {
        sentence = "There are up to 10 jobs, numbered 0 to 9";
        LateJobAdmit x = new LateJobAdmit();
        for (int place = 0; place < 10; place++) {
            due("put of job " + place, x.put(1, 1, false), place);
        }
        due("put of the eleventh", x.put(1, 1, false), FULL);
        due("jobs", x.jobs(), 10);
    }

    private static void lengthBounds() {
        sentence = "A job has a length from 1 to 50";
        for (int length = 1; length <= 50; length++) {
            due("put of length " + length, new LateJobAdmit().put(length, 200, false), 0);
            due("leastTime with length " + length, machine(job(length, 200)).leastTime(), length);
        }
        due("put of length 0", new LateJobAdmit().put(0, 200, false), BAD);
        due("put of length 51", new LateJobAdmit().put(51, 200, false), BAD);
    }

    private static void deadlineBounds() {
        sentence = "A job has a deadline from 0 to 200";
        for (int deadline = 0; deadline <= 200; deadline++) {
            due("put of deadline " + deadline, new LateJobAdmit().put(1, deadline, false), 0);
        }
        due("put of deadline -1", new LateJobAdmit().put(1, -1, false), BAD);
        due("put of deadline 201", new LateJobAdmit().put(1, 201, false), BAD);
    }

    private static void inTimeAtItsDeadline() {
        sentence = "In time iff the sum is at most the deadline (one job)";
        for (int length = 1; length <= 50; length++) {
            for (int deadline = 0; deadline <= 200; deadline++) {
                String job = "length " + length + ", deadline " + deadline;
                due(job, machine(job(length, deadline)).feasible(1), length <= deadline);
            }
        }
    }

    private static void inTimeByTheSumUpToIt() {
        sentence = "In time iff the sum of all up to and including it is at most its deadline";
        for (int tight = 0; tight < 10; tight++) {
            for (int turn = 0; turn < 10; turn++) {
                due("stairs from " + turn, stairs(turn, -1).feasible(1023), true);
                due("one step too low: " + tight + " from " + turn, stairs(turn, tight).feasible(1023), false);
                for (int out = 0; out < 10; out++) {
                    int set = 1023 & ~(1 << (out + turn) % 10);
                    due("step " + tight + " too low, without " + out + " from " + turn,
                        stairs(turn, tight).feasible(set), out <= tight);
                }
            }
        }
    }

    /** Ten jobs of length 20 that just fit, from the place turn on; the one of step low is due 1 earlier. */
    private static LateJobAdmit stairs(int turn, int low) {
        Job[] jobs = new Job[10];
        for (int step = 0; step < 10; step++) {
            jobs[(step + turn) % 10] = job(20, 20 * (step + 1) - (step == low ? 1 : 0));
        }
        return machine(jobs);
    }

    private static void listOfDifferentJobs() {
        sentence = "A list is a series of different jobs, without pause";
        due("each job once, up to the deadline", machine(job(4, 9), job(5, 9)).feasible(3), true);
        due("each job once, one too many", machine(job(5, 9), job(5, 9)).feasible(3), false);
        due("alike jobs are different jobs", machine(job(5, 10), job(5, 10)).feasible(3), true);
    }

    private static void feasibleInSomeOrder() {
        sentence = "Feasible iff there is a list of exactly these jobs with all in time";
        due("the first one first", machine(job(3, 3), job(4, 7)).feasible(3), true);
        due("the second one first", machine(job(4, 7), job(3, 3)).feasible(3), true);
        due("neither order", machine(job(4, 6), job(3, 6)).feasible(3), false);
        due("the others do not count", machine(job(4, 6), job(3, 6), firm(50, 1)).feasible(1), true);
        due("not just a part of them", machine(job(1, 200), job(1, 0)).feasible(3), false);
    }

    private static void emptySetIsFeasible() {
        sentence = "The empty set is feasible";
        for (State state : STATES) {
            due("feasible(0), " + state.name, state.make().feasible(0), true);
        }
    }

    private static void solvableAtTheDeadline() {
        sentence = "Solvable iff the set of all firm jobs is feasible";
        due("one just in time", machine(firm(5, 5)).mostInTime(), 1);
        due("one late by 1", machine(firm(5, 4)).mostInTime(), NONE);
        due("two just in time", machine(firm(4, 10), firm(6, 10)).mostInTime(), 2);
        due("two late by 1", machine(firm(5, 10), firm(6, 10)).mostInTime(), NONE);
        due("ten just in time", firmAll(filled(10, 20, 200)).mostInTime(), 10);
        due("four of the longest just in time", firmAll(filled(4, 50, 200)).mostInTime(), 4);
        due("four of the longest late by 1", firmAll(filled(4, 50, 199)).mostInTime(), NONE);
        due("all of the longest", firmAll(filled(10, 50, 200)).mostInTime(), NONE);
    }

    private static void solvableWithoutFirmJobs() {
        sentence = "Solvable if there is no firm job, as the empty set is feasible";
        due("no jobs", new LateJobAdmit().mostInTime(), 0);
        due("one late job", machine(job(5, 4)).mostInTime(), 0);
        due("ten late jobs", filled(10, 50, 0).mostInTime(), 0);
    }

    private static void goodSetHasAllFirmJobs() {
        sentence = "Good iff feasible and having all firm jobs";
        Job[] jobs = {job(9, 10), job(5, 10), job(5, 10)};
        due("none firm", machine(jobs).mostInTime(), 2);
        due("a long one is firm", firmIn(machine(jobs), 0).mostInTime(), 1);
        due("a short one is firm", firmIn(machine(jobs), 1).mostInTime(), 2);
    }

    // ---- Promise 1: a new object

    private static void promise1() {
        sentence = "1: No jobs";
        due("jobs", new LateJobAdmit().jobs(), 0);
        due("mostInTime", new LateJobAdmit().mostInTime(), 0);
        due("leastTime", new LateJobAdmit().leastTime(), 0);
        due("put", new LateJobAdmit().put(1, 0, true), 0);
        due("welcome", new LateJobAdmit().welcome(1, 1), true);
        due("elapse 0", new LateJobAdmit().elapse(0), 0);
        due("elapse 200", new LateJobAdmit().elapse(200), 0);
        for (int place = 0; place < 10; place++) {
            due("drop " + place, new LateJobAdmit().drop(place), BAD);
            due("makeFirm " + place, new LateJobAdmit().makeFirm(place, true), false);
            due("affordable " + place, new LateJobAdmit().affordable(place), false);
        }
        for (int set = 1; set < 1024; set++) {
            due("feasible " + set, new LateJobAdmit().feasible(set), false);
        }
    }

    // ---- Promise 2: put

    private static void promise2() {
        putTakesTheSmallestEmptyPlace();
        putIsFull();
        putIsFullBeforeBad();
        putOfBadLength();
        putOfBadDeadline();
        putOfBoth();
        putAtTheBounds();
        putAfterARefusedOne();
    }

    private static void putTakesTheSmallestEmptyPlace() {
        sentence = "2: puts a job into the smallest empty place";
        for (int emptied = 0; emptied < 1024; emptied++) {
            LateJobAdmit x = filled(10, 1, 200);
            for (int place = 9; place >= 0; place--) {
                if ((emptied >> place & 1) == 1) {
                    x.drop(place);
                }
            }
            for (int place = 0; place < 10; place++) {
                if ((emptied >> place & 1) == 1) {
                    due("put with empty places " + emptied, x.put(1, 200, false), place);
                }
            }
            due("put after empty places " + emptied, x.put(1, 200, false), FULL);
        }
    }

    private static void putIsFull() {
        sentence = "2: no place is empty: FULL";
        for (State state : List.of(state("full"), state("full and not solvable"))) {
            for (boolean firm : new boolean[] {false, true}) {
                refused(state, "put(1, 0, " + firm + ")", x -> x.put(1, 0, firm), FULL);
                refused(state, "put(50, 200, " + firm + ")", x -> x.put(50, 200, firm), FULL);
            }
        }
    }

    private static void putIsFullBeforeBad() {
        sentence = "2: tested in this order: FULL, then BAD";
        for (int length : OUTSIDE_LENGTHS) {
            refused(state("full"), "put(" + length + ", 9, true)", x -> x.put(length, 9, true), FULL);
            refused(state("one place left"), "put(" + length + ", 9, true)", x -> x.put(length, 9, true), BAD);
        }
        for (int deadline : OUTSIDE_DEADLINES) {
            refused(state("full"), "put(9, " + deadline + ", true)", x -> x.put(9, deadline, true), FULL);
            refused(state("one place left"), "put(9, " + deadline + ", true)", x -> x.put(9, deadline, true), BAD);
        }
        refused(state("full"), "put(0, -1, false)", x -> x.put(0, -1, false), FULL);
        refused(state("full"), "put(51, 201, false)", x -> x.put(51, 201, false), FULL);
        refused(state("full"), "put(MIN, MAX, false)", x -> x.put(MIN, MAX, false), FULL);
    }

    private static void putOfBadLength() {
        sentence = "2: length outside 1..50: BAD";
        for (State state : statesWithAnEmptyPlace()) {
            for (int length : OUTSIDE_LENGTHS) {
                for (int deadline : new int[] {0, 100, 200}) {
                    String job = length + ", " + deadline;
                    refused(state, "put(" + job + ", false)", x -> x.put(length, deadline, false), BAD);
                    refused(state, "put(" + job + ", true)", x -> x.put(length, deadline, true), BAD);
                }
            }
        }
    }

    private static void putOfBadDeadline() {
        sentence = "2: deadline outside 0..200: BAD";
        for (State state : statesWithAnEmptyPlace()) {
            for (int deadline : OUTSIDE_DEADLINES) {
                for (int length : new int[] {1, 25, 50}) {
                    String job = length + ", " + deadline;
                    refused(state, "put(" + job + ", false)", x -> x.put(length, deadline, false), BAD);
                    refused(state, "put(" + job + ", true)", x -> x.put(length, deadline, true), BAD);
                }
            }
        }
    }

    private static void putOfBoth() {
        sentence = "2: length and deadline outside: BAD";
        for (State state : statesWithAnEmptyPlace()) {
            for (int length : new int[] {0, 51, MIN, MAX}) {
                for (int deadline : new int[] {-1, 201, MIN, MAX}) {
                    String call = "put(" + length + ", " + deadline + ", true)";
                    refused(state, call, x -> x.put(length, deadline, true), BAD);
                }
            }
        }
    }

    private static void putAtTheBounds() {
        sentence = "2: else answers the place";
        for (int length : new int[] {1, 50}) {
            for (int deadline : new int[] {0, 200}) {
                for (boolean firm : new boolean[] {false, true}) {
                    String call = "put(" + length + ", " + deadline + ", " + firm + ")";
                    due(call + ", new", new LateJobAdmit().put(length, deadline, firm), 0);
                    due(call + ", gaps", withGaps().put(length, deadline, firm), 2);
                    due(call + ", one place left", withOnePlaceLeft().put(length, deadline, firm), 9);
                    due(call + ", emptied", emptied().put(length, deadline, firm), 0);
                }
            }
        }
    }

    private static void putAfterARefusedOne() {
        sentence = "2: a refused put leaves nothing for the next one";
        LateJobAdmit x = new LateJobAdmit();
        due("put(0, 200, true)", x.put(0, 200, true), BAD);
        due("put(7, 201, true)", x.put(7, 201, true), BAD);
        due("put(8, 7, false)", x.put(8, 7, false), 0);
        due("not firm: mostInTime", x.mostInTime(), 0);
        due("its own deadline: feasible", x.feasible(1), false);
        x.put(51, 200, true);
        due("put(8, 8, false)", x.put(8, 8, false), 1);
        due("its own length: leastTime", x.leastTime(), 8);
    }

    // ---- Promise 3: drop

    private static void promise3() {
        dropOutside();
        dropOfAnEmptyPlace();
        dropAnswersTheNumberLeft();
        dropTakesThatJobAway();
        dropTakesFirmnessAway();
    }

    private static void dropOutside() {
        sentence = "3: i outside 0..9: BAD";
        for (State state : STATES) {
            for (int i : OUTSIDE_PLACES) {
                refused(state, "drop(" + i + ")", x -> x.drop(i), BAD);
            }
        }
    }

    private static void dropOfAnEmptyPlace() {
        sentence = "3: the place is empty: BAD";
        for (int i = 0; i < 10; i++) {
            int place = i;
            refused(state("new"), "drop(" + i + ")", x -> x.drop(place), BAD);
            refused(state("emptied"), "drop(" + i + ")", x -> x.drop(place), BAD);
            refused(fullWithout(i), "drop(" + i + ")", x -> x.drop(place), BAD);
            refused(fullElapsedWithout(i), "drop(" + i + ")", x -> x.drop(place), BAD);
        }
    }

    private static void dropAnswersTheNumberLeft() {
        sentence = "3: else answers the number of jobs left";
        LateJobAdmit upwards = full();
        LateJobAdmit downwards = full();
        for (int i = 0; i < 10; i++) {
            due("drop(" + i + "), the only one so far", full().drop(i), 9);
            due("drop(" + i + ") from 0 on", upwards.drop(i), 9 - i);
            due("drop(" + (9 - i) + ") from 9 on", downwards.drop(9 - i), 9 - i);
        }
    }

    private static void dropTakesThatJobAway() {
        sentence = "3: takes the job in place i away";
        for (int i = 0; i < 10; i++) {
            LateJobAdmit x = filled(10, 1, 200);
            x.drop(i);
            for (int place = 0; place < 10; place++) {
                due("feasible of " + place + " without " + i, x.feasible(1 << place), place != i);
            }
            due("the others keep their places", x.feasible(1023 & ~(1 << i)), true);
            due("leastTime without " + i, x.leastTime(), 9);
            due("put into place " + i, x.put(1, 1, false), i);
        }
    }

    private static void dropTakesFirmnessAway() {
        sentence = "3: takes the job away, firm or not";
        for (int i = 0; i < 10; i++) {
            LateJobAdmit x = firmIn(filled(10, 1, 0), i);
            due("mostInTime before", x.mostInTime(), NONE);
            due("drop of a firm job", x.drop(i), 9);
            due("mostInTime after", x.mostInTime(), 0);
            due("put in its stead", x.put(1, 0, false), i);
            due("mostInTime with another in its stead", x.mostInTime(), 0);
        }
    }

    // ---- Promise 4: makeFirm

    private static void promise4() {
        makeFirmOutside();
        makeFirmOfAnEmptyPlace();
        makeFirmAtTheBounds();
        makeFirmTwice();
    }

    private static void makeFirmOutside() {
        sentence = "4: i outside 0..9: refused, answers false";
        for (State state : STATES) {
            for (int i : OUTSIDE_PLACES) {
                refused(state, "makeFirm(" + i + ", true)", x -> number(x.makeFirm(i, true)), 0);
                refused(state, "makeFirm(" + i + ", false)", x -> number(x.makeFirm(i, false)), 0);
            }
        }
    }

    private static void makeFirmOfAnEmptyPlace() {
        sentence = "4: the place is empty: refused, answers false";
        for (int i = 0; i < 10; i++) {
            int place = i;
            for (State state : List.of(state("new"), state("emptied"), fullWithout(i), fullElapsedWithout(i))) {
                refused(state, "makeFirm(" + i + ", true)", x -> number(x.makeFirm(place, true)), 0);
                refused(state, "makeFirm(" + i + ", false)", x -> number(x.makeFirm(place, false)), 0);
            }
        }
    }

    private static void makeFirmAtTheBounds() {
        sentence = "4: makes the job in place i firm (true) or not (false)";
        for (int i = 0; i < 10; i++) {
            LateJobAdmit x = lateJobAt(i);
            due("mostInTime before", x.mostInTime(), 9);
            due("makeFirm(" + i + ", true)", x.makeFirm(i, true), true);
            due("mostInTime with " + i + " firm", x.mostInTime(), NONE);
            due("makeFirm(" + i + ", false)", x.makeFirm(i, false), true);
            due("mostInTime with " + i + " not firm", x.mostInTime(), 9);
        }
    }

    private static void makeFirmTwice() {
        sentence = "4: else true (also if it is so already)";
        for (int i = 0; i < 10; i++) {
            LateJobAdmit x = lateJobAt(i);
            due("not firm already", x.makeFirm(i, false), true);
            due("mostInTime", x.mostInTime(), 9);
            x.makeFirm(i, true);
            due("firm already", x.makeFirm(i, true), true);
            due("mostInTime", x.mostInTime(), NONE);
            due("once is enough to undo it", x.makeFirm(i, false), true);
            due("mostInTime", x.mostInTime(), 9);
        }
    }

    /** All jobs can be in time but the one in place i, which never can. */
    private static LateJobAdmit lateJobAt(int i) {
        Job[] jobs = new Job[10];
        for (int place = 0; place < 10; place++) {
            jobs[place] = job(2, place == i ? 1 : 200);
        }
        return machine(jobs);
    }

    // ---- Promise 5: jobs

    private static void promise5() {
        sentence = "5: the number of jobs";
        for (int count = 0; count <= 10; count++) {
            due("of " + count, filled(count, 1, 200).jobs(), count);
            due("of " + count + " that are late", filled(count, 50, 0).jobs(), count);
            due("of " + count + " firm and late", firmAll(filled(count, 50, 0)).jobs(), count);
        }
        due("with gaps", withGaps().jobs(), 4);
        due("emptied", emptied().jobs(), 0);
    }

    // ---- Promise 6: feasible

    private static void promise6() {
        feasibleInside();
        feasibleOutside();
        feasibleWithEmptyPlaces();
        feasibleChangesNothing();
    }

    private static void feasibleInside() {
        sentence = "6: a set is 0..1023";
        for (int set = 0; set <= 1023; set++) {
            due("feasible(" + set + ")", filled(10, 20, 200).feasible(set), true);
            due("feasible(" + set + "), none in time", filled(10, 1, 0).feasible(set), set == 0);
        }
    }

    private static void feasibleOutside() {
        sentence = "6: false for other numbers";
        for (State state : STATES) {
            for (int set : OUTSIDE_SETS) {
                refused(state, "feasible(" + set + ")", x -> number(x.feasible(set)), 0);
            }
        }
        for (int bit = 10; bit < 32; bit++) {
            due("only bit " + bit, filled(10, 1, 200).feasible(1 << bit), false);
            due("bit " + bit + " among others", filled(10, 1, 200).feasible(1 << bit | 1023), false);
        }
    }

    private static void feasibleWithEmptyPlaces() {
        sentence = "6: false for sets with empty places";
        for (int i = 0; i < 10; i++) {
            LateJobAdmit neverHeld = filled(i, 1, 200);
            due("place " + i + " never held a job", neverHeld.feasible(1 << i), false);
            due("place " + i + " never held a job, among others", neverHeld.feasible((2 << i) - 1), false);
            due("without it", neverHeld.feasible((1 << i) - 1), true);
            LateJobAdmit dropped = filled(10, 1, 200);
            dropped.drop(i);
            due("place " + i + " was dropped", dropped.feasible(1 << i), false);
            due("place " + i + " was dropped, among others", dropped.feasible(1023), false);
            due("without it", dropped.feasible(1023 & ~(1 << i)), true);
            LateJobAdmit elapsed = fullElapsedWithout(i).make();
            due("place " + i + " elapsed", elapsed.feasible(1 << i), false);
            due("place " + i + " elapsed, among others", elapsed.feasible(1023), false);
        }
    }

    private static void feasibleChangesNothing() {
        sentence = "6: it only asks";
        for (State state : STATES) {
            refused(state, "feasible(0)", x -> number(x.feasible(0)), 1);
        }
        refused(state("one place left"), "feasible(1023)", x -> number(x.feasible(1023)), 0);
    }

    // ---- Promise 7: mostInTime

    private static void promise7() {
        mostInTimeAtItsEnds();
        mostInTimeNotSolvable();
        mostInTimeAtTheDeadline();
    }

    private static void mostInTimeAtItsEnds() {
        sentence = "7: the greatest number of jobs of a good set";
        for (int count = 0; count <= 10; count++) {
            due(count + " that all fit", filled(count, 20, 200).mostInTime(), count);
            due(count + " firm ones that all fit", firmAll(filled(count, 20, 200)).mostInTime(), count);
            due(count + " that are all late", filled(count, 1, 0).mostInTime(), 0);
        }
        due("one too long for all ten", machineWithLast(9, job(20, 200), job(21, 200)).mostInTime(), 9);
        due("no jobs any more", emptied().mostInTime(), 0);
    }

    private static void mostInTimeNotSolvable() {
        sentence = "7: NONE if the jobs are not solvable";
        for (int i = 0; i < 10; i++) {
            LateJobAdmit x = lateJobAt(i);
            due("solvable while " + i + " is not firm", x.mostInTime(), 9);
            x.makeFirm(i, true);
            due("not solvable while " + i + " is firm", x.mostInTime(), NONE);
            x.drop(i);
            due("solvable without " + i, x.mostInTime(), 9);
        }
        due("each alone in time, not all", machine(firm(6, 10), firm(5, 10), job(1, 200)).mostInTime(), NONE);
    }

    private static void mostInTimeAtTheDeadline() {
        sentence = "7: a firm job leaves room up to the deadline";
        due("just room", machine(firm(6, 10), job(4, 10)).mostInTime(), 2);
        due("no room by 1", machine(firm(6, 10), job(5, 10)).mostInTime(), 1);
        due("just room before it", machine(firm(6, 10), job(4, 4)).mostInTime(), 2);
        due("no room before it by 1", machine(firm(6, 9), job(4, 4)).mostInTime(), 1);
    }

    // ---- Promise 8: leastTime

    private static void promise8() {
        leastTimeAtItsEnds();
        leastTimeNotSolvable();
        leastTimeOfTheGreatestNumber();
    }

    private static void leastTimeAtItsEnds() {
        sentence = "8: the least sum of lengths";
        due("no jobs", new LateJobAdmit().leastTime(), 0);
        due("no jobs any more", emptied().leastTime(), 0);
        due("none in time", filled(10, 50, 49).leastTime(), 0);
        due("one just in time", filled(10, 50, 50).leastTime(), 50);
        due("the whole time", filled(10, 20, 200).leastTime(), 200);
        due("the whole time with the longest", filled(10, 50, 200).leastTime(), 200);
        due("the whole time, firm", firmAll(filled(10, 20, 200)).leastTime(), 200);
        due("less by 1", machineWithLast(9, job(20, 200), job(19, 200)).leastTime(), 199);
        due("ten of the shortest", filled(10, 1, 200).leastTime(), 10);
    }

    private static void leastTimeNotSolvable() {
        sentence = "8: NONE if the jobs are not solvable";
        for (int i = 0; i < 10; i++) {
            LateJobAdmit x = lateJobAt(i);
            due("solvable while " + i + " is not firm", x.leastTime(), 18);
            x.makeFirm(i, true);
            due("not solvable while " + i + " is firm", x.leastTime(), NONE);
            x.drop(i);
            due("solvable without " + i, x.leastTime(), 18);
        }
        due("firm late by 1", machine(firm(5, 4)).leastTime(), NONE);
        due("firm just in time", machine(firm(5, 5)).leastTime(), 5);
        due("each alone in time, not all", machine(firm(6, 10), firm(5, 10)).leastTime(), NONE);
    }

    private static void leastTimeOfTheGreatestNumber() {
        sentence = "8: over the good sets with the greatest number of jobs";
        due("two, though one takes less", machine(job(4, 10), job(6, 10)).leastTime(), 10);
        due("one, as two are late by 1", machine(job(5, 10), job(6, 10)).leastTime(), 5);
        due("the shorter one stands last", machine(job(6, 10), job(5, 10)).leastTime(), 5);
        due("the shorter one is not good", machine(firm(6, 10), job(5, 10)).leastTime(), 6);
        due("the shorter one is late", machine(job(6, 10), job(5, 4)).leastTime(), 6);
    }

    // ---- Promise 9: affordable

    private static void promise9() {
        affordableOutside();
        affordableEmptyPlace();
        affordableNotSolvableNow();
        affordableNotSolvableWithIt();
        affordableSameNumber();
        affordableChangesNothing();
    }

    private static void affordableOutside() {
        sentence = "9: false if i is outside 0..9";
        for (State state : STATES) {
            for (int i : OUTSIDE_PLACES) {
                refused(state, "affordable(" + i + ")", x -> number(x.affordable(i)), 0);
            }
        }
        for (int i : OUTSIDE_PLACES) {
            due("affordable(" + i + ") where each is", filled(10, 1, 200).affordable(i), false);
        }
        due("affordable(0) where each is", filled(10, 1, 200).affordable(0), true);
        due("affordable(9) where each is", filled(10, 1, 200).affordable(9), true);
    }

    private static void affordableEmptyPlace() {
        sentence = "9: false if the place is empty";
        for (int i = 0; i < 10; i++) {
            int place = i;
            due("place " + i + " never held a job", filled(i, 1, 200).affordable(i), false);
            for (State state : List.of(state("new"), state("emptied"), fullWithout(i), fullElapsedWithout(i))) {
                refused(state, "affordable(" + i + ")", x -> number(x.affordable(place)), 0);
            }
        }
    }

    private static void affordableNotSolvableNow() {
        sentence = "9: false if the jobs are not solvable now";
        for (int i = 0; i < 10; i++) {
            int place = i;
            refused(state("not solvable"), "affordable(" + i + ")", x -> number(x.affordable(place)), 0);
            refused(state("full and not solvable"), "affordable(" + i + ")", x -> number(x.affordable(place)), 0);
            LateJobAdmit x = firmIn(lateJobAt(9), 9);
            due("affordable(" + i + ") while 9 is firm and late", x.affordable(i), false);
            x.makeFirm(9, false);
            due("affordable(" + i + ") while 9 is late", x.affordable(i), i != 9);
        }
    }

    private static void affordableNotSolvableWithIt() {
        sentence = "9: with it firm, too, the jobs are solvable";
        due("just in time", machine(job(5, 5)).affordable(0), true);
        due("late by 1", machine(job(5, 4)).affordable(0), false);
        due("just in time beside a firm one", machine(firm(6, 10), job(4, 10)).affordable(1), true);
        due("late by 1 beside a firm one", machine(firm(6, 10), job(5, 10)).affordable(1), false);
        due("firm already", machine(firm(6, 10), job(5, 10)).affordable(0), true);
    }

    private static void affordableSameNumber() {
        sentence = "9: mostInTime() would be the same";
        due("two with it, two without", machine(job(6, 10), job(4, 10), job(4, 10)).affordable(0), true);
        due("one with it, two without", machine(job(7, 10), job(4, 10), job(4, 10)).affordable(0), false);
        due("one with it, one without", machine(job(7, 10), job(4, 10)).affordable(0), true);
        for (int i = 0; i < 10; i++) {
            due("place " + i + " of all that fit", filled(10, 20, 200).affordable(i), true);
            due("place " + i + " of all firm", firmAll(filled(10, 20, 200)).affordable(i), true);
            due("place " + i + " of alike ones", filled(10, 50, 50).affordable(i), true);
        }
    }

    private static void affordableChangesNothing() {
        sentence = "9: it only asks";
        for (State state : STATES) {
            for (int i = 0; i < 10; i++) {
                int place = i;
                int asBefore = number(state.make().affordable(i));
                refused(state, "affordable(" + i + ")", x -> number(x.affordable(place)), asBefore);
            }
        }
    }

    // ---- Promise 10: welcome

    private static void promise10() {
        welcomeOfBadLength();
        welcomeOfBadDeadline();
        welcomeAtTheBounds();
        welcomeNotSolvableNow();
        welcomeGreater();
        welcomeWhenFull();
        welcomeChangesNothing();
    }

    private static void welcomeOfBadLength() {
        sentence = "10: false if length is outside 1..50";
        for (State state : STATES) {
            for (int length : OUTSIDE_LENGTHS) {
                refused(state, "welcome(" + length + ", 200)", x -> number(x.welcome(length, 200)), 0);
                refused(state, "welcome(" + length + ", 0)", x -> number(x.welcome(length, 0)), 0);
            }
        }
    }

    private static void welcomeOfBadDeadline() {
        sentence = "10: false if deadline is outside 0..200";
        for (State state : STATES) {
            for (int deadline : OUTSIDE_DEADLINES) {
                refused(state, "welcome(1, " + deadline + ")", x -> number(x.welcome(1, deadline)), 0);
                refused(state, "welcome(50, " + deadline + ")", x -> number(x.welcome(50, deadline)), 0);
            }
        }
        refused(state("new"), "welcome(0, -1)", x -> number(x.welcome(0, -1)), 0);
        refused(state("new"), "welcome(51, 201)", x -> number(x.welcome(51, 201)), 0);
        refused(state("new"), "welcome(MIN, MAX)", x -> number(x.welcome(MIN, MAX)), 0);
    }

    private static void welcomeAtTheBounds() {
        sentence = "10: length from 1 to 50 and deadline from 0 to 200";
        for (int length = 1; length <= 50; length++) {
            for (int deadline : new int[] {0, length - 1, length, 200}) {
                String call = "welcome(" + length + ", " + deadline + ")";
                due(call, new LateJobAdmit().welcome(length, deadline), length <= deadline);
            }
        }
    }

    private static void welcomeNotSolvableNow() {
        sentence = "10: false if the jobs are not solvable now";
        for (State state : List.of(state("not solvable"), state("full and not solvable"))) {
            for (int length : new int[] {1, 50}) {
                for (int deadline : new int[] {0, 200}) {
                    String call = "welcome(" + length + ", " + deadline + ")";
                    refused(state, call, x -> number(x.welcome(length, deadline)), 0);
                }
            }
        }
        LateJobAdmit x = machine(firm(2, 1));
        due("a firm job late by 1", x.welcome(1, 200), false);
        x.makeFirm(0, false);
        due("the job is not firm", x.welcome(1, 200), true);
        x.makeFirm(0, true);
        x.drop(0);
        due("the job is gone", x.welcome(1, 200), true);
        due("a firm job just in time", machine(firm(2, 2)).welcome(1, 200), true);
    }

    private static void welcomeGreater() {
        sentence = "10: whether one more job, not firm, would make mostInTime() greater";
        due("just room", machine(job(6, 10)).welcome(4, 10), true);
        due("no room by 1", machine(job(6, 10)).welcome(5, 10), false);
        due("just room before", machine(firm(6, 10)).welcome(4, 4), true);
        due("late by 1 before", machine(firm(6, 10)).welcome(4, 3), false);
        due("just room behind", machine(firm(6, 6)).welcome(4, 10), true);
        due("late by 1 behind", machine(firm(6, 6)).welcome(4, 9), false);
        due("in the stead of another: as many as before", machine(job(6, 6)).welcome(1, 6), false);
        due("beside late ones", machine(job(6, 5)).welcome(1, 1), true);
        due("with another one in the stead of the long one",
            machine(job(9, 9), job(5, 9)).welcome(4, 9), true);
    }

    private static void welcomeWhenFull() {
        sentence = "10: asked also when no place is empty";
        due("just room for the eleventh", filled(10, 16, 200).welcome(40, 200), true);
        due("no room for the eleventh by 1", filled(10, 16, 200).welcome(41, 200), false);
        due("just room beside firm ones", firmAll(filled(10, 16, 200)).welcome(40, 200), true);
        due("no room beside firm ones by 1", firmAll(filled(10, 16, 200)).welcome(41, 200), false);
        due("the longest", filled(10, 15, 200).welcome(50, 200), true);
        due("no time left", filled(10, 20, 200).welcome(1, 200), false);
        due("no time left, first", filled(10, 20, 200).welcome(1, 1), false);
        due("the only one in time", filled(10, 1, 0).welcome(1, 1), true);
        due("late among late ones", filled(10, 1, 0).welcome(1, 0), false);
    }

    private static void welcomeChangesNothing() {
        sentence = "10: it only asks";
        for (State state : STATES) {
            for (int deadline : new int[] {0, 1, 7, 200}) {
                int asBefore = number(state.make().welcome(1, deadline));
                refused(state, "welcome(1, " + deadline + ")", x -> number(x.welcome(1, deadline)), asBefore);
            }
        }
        LateJobAdmit x = machine(job(6, 10));
        due("welcome", x.welcome(4, 10), true);
        due("put, not of the job asked for", x.put(5, 10, false), 1);
        due("mostInTime", x.mostInTime(), 1);
    }

    // ---- Promise 11: elapse

    private static void promise11() {
        elapseOutside();
        elapseAtTheBounds();
        elapseBelow0();
        elapseFirmOnes();
        elapseTakesOffAll();
        elapseInParts();
        elapseAnswersTheNumberLeft();
        elapseLeavesEmptyPlaces();
    }

    private static void elapseOutside() {
        sentence = "11: t outside 0..200: BAD, and nothing changes";
        for (State state : STATES) {
            for (int t : OUTSIDE_TIMES) {
                refused(state, "elapse(" + t + ")", x -> x.elapse(t), BAD);
            }
        }
        for (int t : OUTSIDE_TIMES) {
            State latest = new State("greatest deadline", () -> filled(10, 20, 200));
            refused(latest, "elapse(" + t + ")", x -> x.elapse(t), BAD);
            State least = new State("least deadline", () -> filled(10, 1, 0));
            refused(least, "elapse(" + t + ")", x -> x.elapse(t), BAD);
        }
    }

    private static void elapseAtTheBounds() {
        sentence = "11: t from 0 to 200";
        for (State state : STATES) {
            refused(state, "elapse(0)", x -> x.elapse(0), state.make().jobs());
        }
        for (int t = 0; t <= 200; t++) {
            due("elapse(" + t + ") of deadline 200", filled(10, 1, 200).elapse(t), 10);
            due("elapse(" + t + ") of deadline 0", filled(10, 1, 0).elapse(t), t == 0 ? 10 : 0);
        }
    }

    private static void elapseBelow0() {
        sentence = "11: jobs whose deadline falls below 0 are taken away";
        for (int deadline = 0; deadline <= 200; deadline++) {
            for (int t = 0; t <= 200; t++) {
                String call = "elapse(" + t + ") of deadline " + deadline;
                due(call, machine(job(1, deadline)).elapse(t), deadline - t < 0 ? 0 : 1);
            }
        }
        LateJobAdmit x = machine(job(1, 6), job(1, 5), job(1, 4));
        due("elapse(5)", x.elapse(5), 2);
        due("deadline 1 is kept", x.makeFirm(0, false), true);
        due("deadline 0 is kept", x.makeFirm(1, false), true);
        due("below 0 is not", x.makeFirm(2, false), false);
        due("deadline 1 is in time", x.feasible(1), true);
        due("deadline 0 is late", x.feasible(2), false);
    }

    private static void elapseFirmOnes() {
        sentence = "11: firm ones, too";
        for (int i = 0; i < 10; i++) {
            LateJobAdmit x = firmIn(filledBut(i, job(1, 7)), i);
            due("elapse to 0", x.elapse(7), 10);
            due("firm and late: mostInTime", x.mostInTime(), NONE);
            due("elapse below 0", x.elapse(1), 9);
            due("gone: mostInTime", x.mostInTime(), 9);
            due("put in its stead", x.put(1, 0, false), i);
            due("not firm: mostInTime", x.mostInTime(), 9);
        }
        LateJobAdmit y = machine(firm(5, 5), firm(5, 20));
        due("one firm job goes", y.elapse(6), 1);
        due("the other is still in time", y.mostInTime(), 1);
        due("it comes to be late", y.elapse(10), 1);
        due("it is still firm", y.mostInTime(), NONE);
    }

    private static void elapseTakesOffAll() {
        sentence = "11: takes t off all deadlines";
        for (int i = 0; i < 10; i++) {
            LateJobAdmit x = filled(10, 7, 200);
            x.elapse(193);
            due("deadline of " + i + " is 7 at last", x.feasible(1 << i), true);
            x.elapse(1);
            due("deadline of " + i + " is 6 at last", x.feasible(1 << i), false);
        }
        LateJobAdmit y = machine(job(7, 17), job(3, 20));
        due("elapse(10)", y.elapse(10), 2);
        due("lengths stay", y.leastTime(), 10);
        due("a later job's deadline is its own", y.put(50, 200, false), 2);
        due("elapse(150)", y.elapse(150), 1);
        due("just in time", y.feasible(4), true);
        due("elapse(1)", y.elapse(1), 1);
        due("late by 1", y.feasible(4), false);
    }

    private static void elapseInParts() {
        sentence = "11: below 0 is told from what is left, call by call";
        LateJobAdmit x = machine(job(1, 200));
        for (int call = 0; call < 200; call++) {
            due("elapse(1), call " + call, x.elapse(1), 1);
        }
        due("elapse(0) at deadline 0", x.elapse(0), 1);
        due("elapse(1) at deadline 0", x.elapse(1), 0);
        due("elapse(200) of none", x.elapse(200), 0);
        due("put", x.put(1, 200, false), 0);
        due("elapse(200)", x.elapse(200), 1);
        due("elapse(200) at deadline 0", x.elapse(200), 0);
    }

    private static void elapseAnswersTheNumberLeft() {
        sentence = "11: else answers the number of jobs left";
        for (int t = 0; t <= 10; t++) {
            Job[] upwards = new Job[10];
            Job[] downwards = new Job[10];
            for (int place = 0; place < 10; place++) {
                upwards[place] = job(1, place);
                downwards[place] = job(1, 9 - place);
            }
            due("elapse(" + t + "), upwards", machine(upwards).elapse(t), 10 - t);
            due("elapse(" + t + "), downwards", machine(downwards).elapse(t), 10 - t);
        }
        due("no jobs", new LateJobAdmit().elapse(200), 0);
        due("all of them", full().elapse(0), 10);
    }

    private static void elapseLeavesEmptyPlaces() {
        sentence = "11: a job taken away leaves its place empty";
        for (int i = 0; i < 10; i++) {
            LateJobAdmit x = fullElapsedWithout(i).make();
            due("drop(" + i + ")", x.drop(i), BAD);
            due("makeFirm(" + i + ")", x.makeFirm(i, true), false);
            due("affordable(" + i + ")", x.affordable(i), false);
            due("feasible of " + i, x.feasible(1 << i), false);
            due("put", x.put(1, 1, false), i);
            due("put when it is full again", x.put(1, 1, false), FULL);
        }
        LateJobAdmit dropped = filled(3, 1, 9);
        dropped.drop(1);
        due("a dropped job is not left nor taken away again", dropped.elapse(9), 2);
        due("nor when the others go", dropped.elapse(1), 0);
    }

    // ---- States

    /** Jobs in places 0, 1, 3 and 5 with a firm one among them; 2 and 4 were firm once. */
    private static LateJobAdmit withGaps() {
        LateJobAdmit x = machine(job(6, 20), firm(5, 30), firm(50, 50), job(12, 40), firm(9, 60), job(20, 41));
        x.drop(2);
        x.drop(4);
        return x;
    }

    private static LateJobAdmit withOnePlaceLeft() {
        return machine(job(6, 8), job(4, 9), firm(7, 15), job(8, 20), job(3, 21), job(5, 22),
            firm(11, 90), job(50, 200), job(1, 0));
    }

    private static LateJobAdmit full() {
        return machine(job(6, 18), job(4, 19), firm(7, 25), job(8, 30), job(3, 31), job(5, 32),
            firm(11, 90), job(50, 200), job(1, 0), job(30, 120));
    }

    /** Places 0 to 5, of which 1 is empty; the firm ones are late by 1. */
    private static LateJobAdmit notSolvable() {
        LateJobAdmit x = machine(job(6, 20), job(1, 1), firm(10, 20), firm(11, 20), job(12, 40), job(2, 2));
        x.drop(1);
        return x;
    }

    private static LateJobAdmit fullAndNotSolvable() {
        return firmIn(full(), 8);
    }

    /** Places 0 and 3 were left by jobs whose time ran out, a firm one among them; the job in 1 is due at 0. */
    private static LateJobAdmit withElapsed() {
        LateJobAdmit x = machine(firm(3, 9), job(1, 10), firm(20, 40), job(5, 3), job(10, 42), job(2, 200));
        x.elapse(10);
        return x;
    }

    /** Half of the jobs were dropped, half of them elapsed. */
    private static LateJobAdmit emptied() {
        LateJobAdmit x = new LateJobAdmit();
        for (int i = 0; i < 10; i++) {
            x.put(5, 100, i % 3 == 0);
        }
        for (int i = 0; i < 10; i += 2) {
            x.drop(i);
        }
        x.elapse(101);
        return x;
    }

    private static State state(String name) {
        for (State state : STATES) {
            if (state.name.equals(name)) {
                return state;
            }
        }
        throw new IllegalArgumentException(name);
    }

    private static List<State> statesWithAnEmptyPlace() {
        List<State> states = new ArrayList<>(STATES);
        states.removeIf(state -> state.make().jobs() == 10);
        return states;
    }

    private static State fullWithout(int i) {
        return new State("full without " + i, () -> {
            LateJobAdmit x = firmIn(full(), i);
            x.drop(i);
            return x;
        });
    }

    private static State fullElapsedWithout(int i) {
        return new State("full, elapsed without " + i, () -> {
            LateJobAdmit x = firmIn(filledBut(i, job(1, 7)), i);
            x.elapse(8);
            return x;
        });
    }

    private static Job job(int length, int deadline) {
        return new Job(length, deadline, false);
    }

    private static Job firm(int length, int deadline) {
        return new Job(length, deadline, true);
    }

    private static LateJobAdmit machine(Job... jobs) {
        LateJobAdmit x = new LateJobAdmit();
        for (int place = 0; place < jobs.length; place++) {
            Job job = jobs[place];
            due("put of " + job, x.put(job.length, job.deadline, job.isFirm), place);
        }
        return x;
    }

    private static LateJobAdmit filled(int count, int length, int deadline) {
        Job[] jobs = new Job[count];
        for (int place = 0; place < count; place++) {
            jobs[place] = job(length, deadline);
        }
        return machine(jobs);
    }

    private static LateJobAdmit machineWithLast(int count, Job usual, Job last) {
        LateJobAdmit x = filled(count, usual.length, usual.deadline);
        due("put of the last", x.put(last.length, last.deadline, last.isFirm), count);
        return x;
    }

    /** Ten jobs, all of them short and due late but the one in place i. */
    private static LateJobAdmit filledBut(int i, Job other) {
        Job[] jobs = new Job[10];
        for (int place = 0; place < 10; place++) {
            jobs[place] = place == i ? other : job(1, 200);
        }
        return machine(jobs);
    }

    private static LateJobAdmit firmIn(LateJobAdmit x, int i) {
        due("makeFirm(" + i + ", true)", x.makeFirm(i, true), true);
        return x;
    }

    private static LateJobAdmit firmAll(LateJobAdmit x) {
        for (int place = x.jobs() - 1; place >= 0; place--) {
            firmIn(x, place);
        }
        return x;
    }

    // ---- That a call changes nothing

    /** The call answers as is due, and all other answers, now and later, are as they are without it. */
    private static void refused(State state, String call, ToIntFunction<LateJobAdmit> on, int want) {
        String where = call + ", " + state.name;
        LateJobAdmit x = state.make();
        List<String> before = answers(x);
        due(where, on.applyAsInt(x), want);
        same(where, answers(x), before);
        LateJobAdmit twin = state.make();
        same(where, laterAnswers(x), laterAnswers(twin));
    }

    private static List<String> answers(LateJobAdmit x) {
        List<String> answers = new ArrayList<>();
        answers.add("jobs() " + x.jobs());
        answers.add("mostInTime() " + x.mostInTime());
        answers.add("leastTime() " + x.leastTime());
        for (int i = 0; i < 10; i++) {
            answers.add("affordable(" + i + ") " + x.affordable(i));
            for (int j = i; j < 10; j++) {
                int set = 1 << i | 1 << j;
                answers.add("feasible(" + set + ") " + x.feasible(set));
            }
        }
        for (int length : new int[] {1, 5, 50}) {
            for (int deadline : new int[] {5, 60, 200}) {
                answers.add("welcome(" + length + ", " + deadline + ") " + x.welcome(length, deadline));
            }
        }
        return answers;
    }

    /** These calls change the object, so that what it holds unseen comes out as well. */
    private static List<String> laterAnswers(LateJobAdmit x) {
        List<String> answers = new ArrayList<>();
        for (int put = 0; put < 11; put++) {
            answers.add("put " + put + ": " + x.put(3, 40, false));
        }
        answers.add("mostInTime() when filled " + x.mostInTime());
        answers.add("leastTime() when filled " + x.leastTime());
        for (int part = 1; part <= 8; part++) {
            answers.add("elapse, part " + part + ": " + x.elapse(part));
            answers.add("mostInTime(), part " + part + ": " + x.mostInTime());
            answers.add("leastTime(), part " + part + ": " + x.leastTime());
        }
        for (int i = 0; i < 10; i++) {
            answers.add("makeFirm(" + i + ", false) " + x.makeFirm(i, false));
            answers.add("mostInTime() " + x.mostInTime());
        }
        for (int i = 0; i < 10; i++) {
            answers.add("drop(" + i + ") " + x.drop(i));
        }
        return answers;
    }

    private static void same(String where, List<String> got, List<String> want) {
        for (int k = 0; k < want.size(); k++) {
            if (!got.get(k).equals(want.get(k))) {
                wrong++;
                System.out.println(sentence + ": after " + where + ": answered " + got.get(k) + ", due is " + want.get(k));
            }
        }
    }

    // ---- Answers

    private static int number(boolean answer) {
        return answer ? 1 : 0;
    }

    private static void due(String what, int got, int want) {
        if (got != want) {
            wrong++;
            System.out.println(sentence + ": " + what + " answered " + got + ", due is " + want);
        }
    }

    private static void due(String what, boolean got, boolean want) {
        due(what, number(got), number(want));
    }
}
