/** Each promise of the document by hand: ordinary inputs, the edges it names, and wrong inputs. */
public final class PromisesTest {
    private static final int[] OUTSIDE_PLACES = {-1, 10, 11, 31, 32, 33, -32, Integer.MAX_VALUE, Integer.MIN_VALUE};
    private static int wrong = 0;

    public static void main(String[] args) {
        promise1NewObject();
        promise2Put();
        promise2PutOrderOfTests();
        promise2PutFirm();
        promise3Drop();
        promise4MakeFirm();
        promise5Jobs();
        promise6Feasible();
        promise6FeasibleWrongSets();
        promise7MostInTime();
        promise8LeastTime();
        promise9Affordable();
        promise9AffordableRefusals();
        promise10Welcome();
        promise10WelcomeFull();
        promise10WelcomeChangesNothing();
        promise11Elapse();
        promise11ElapseFirm();
        promise11ElapseBad();
        System.out.println(wrong == 0 ? "all answers are as due" : wrong + " answers are not as due");
        if (wrong != 0) {
            System.exit(1);
        }
    }

    private static void promise1NewObject() {
        LateJobAdmit x = new LateJobAdmit();
        due("1 jobs", x.jobs(), 0);
        due("1 mostInTime", x.mostInTime(), 0);
        due("1 leastTime", x.leastTime(), 0);
        due("1 feasible(0)", x.feasible(0), true);
        for (int i = 0; i < 10; i++) {
            due("1 feasible of empty place " + i, x.feasible(1 << i), false);
            due("1 drop " + i, x.drop(i), LateJobAdmit.BAD);
        }
        LateJobAdmit y = new LateJobAdmit();
        x.put(1, 1, true);
        due("1 objects share nothing", y.jobs(), 0);
        due("1 BAD", LateJobAdmit.BAD, -1);
        due("1 FULL", LateJobAdmit.FULL, -2);
        due("1 NONE", LateJobAdmit.NONE, -3);
    }

    private static void promise2Put() {
        LateJobAdmit x = new LateJobAdmit();
        due("2 least length and deadline", x.put(1, 0, false), 0);
        due("2 greatest length and deadline", x.put(50, 200, true), 1);
        int[][] bad = {{0, 10}, {51, 10}, {-1, 10}, {1, -1}, {1, 201}, {0, -1}, {51, 201},
            {Integer.MIN_VALUE, 10}, {Integer.MAX_VALUE, 10}, {1, Integer.MIN_VALUE}, {1, Integer.MAX_VALUE}};
        for (int[] job : bad) {
            due("2 bad put " + job[0] + ", " + job[1], x.put(job[0], job[1], false), LateJobAdmit.BAD);
            due("2 bad firm put " + job[0] + ", " + job[1], x.put(job[0], job[1], true), LateJobAdmit.BAD);
        }
        due("2 bad puts put nothing", x.jobs(), 2);
        due("2 next place", x.put(1, 200, false), 2);
        due("2 next place", x.put(1, 200, false), 3);
        x.drop(2);
        x.drop(0);
        due("2 smallest empty place", x.put(7, 7, false), 0);
        due("2 then the next empty one", x.put(8, 8, false), 2);
        due("2 then after the last one", x.put(9, 9, false), 4);
        due("2 length and deadline are kept", x.feasible(1), true);
    }

    private static void promise2PutOrderOfTests() {
        LateJobAdmit x = filled(10, 1, 200);
        due("2 full", x.put(1, 1, false), LateJobAdmit.FULL);
        due("2 full comes before bad length", x.put(0, 1, false), LateJobAdmit.FULL);
        due("2 full comes before bad deadline", x.put(1, 201, true), LateJobAdmit.FULL);
        due("2 a full put changes nothing", x.jobs(), 10);
        due("2 a full put changes nothing", x.leastTime(), 10);
        x.drop(9);
        due("2 not full any more", x.put(0, 1, false), LateJobAdmit.BAD);
        due("2 last place", x.put(1, 1, false), 9);
    }

    private static void promise2PutFirm() {
        LateJobAdmit x = new LateJobAdmit();
        x.put(5, 4, true);
        due("2 firm", x.mostInTime(), LateJobAdmit.NONE);
        x.drop(0);
        x.put(5, 4, false);
        due("2 not firm, though the job before it in this place was", x.mostInTime(), 0);
    }

    private static void promise3Drop() {
        LateJobAdmit x = filled(3, 10, 30);
        for (int i : OUTSIDE_PLACES) {
            due("3 drop " + i, x.drop(i), LateJobAdmit.BAD);
        }
        due("3 empty place", x.drop(3), LateJobAdmit.BAD);
        due("3 nothing was dropped", x.jobs(), 3);
        due("3 drop", x.drop(1), 2);
        due("3 dropped twice", x.drop(1), LateJobAdmit.BAD);
        due("3 the right job is gone", x.feasible(2), false);
        due("3 the others stay in their places", x.feasible(5), true);
        due("3 drop", x.drop(2), 1);
        due("3 drop of the last", x.drop(0), 0);
        x.put(5, 4, true);
        due("3 a firm job", x.drop(0), 0);
        due("3 a dropped firm job does not bind", x.mostInTime(), 0);
        LateJobAdmit full = filled(10, 1, 200);
        due("3 last place", full.drop(9), 9);
    }

    private static void promise4MakeFirm() {
        LateJobAdmit x = new LateJobAdmit();
        x.put(10, 10, false);
        x.put(5, 10, false);
        x.put(5, 10, false);
        due("4 none firm", x.leastTime(), 10);
        for (int i : OUTSIDE_PLACES) {
            due("4 makeFirm " + i, x.makeFirm(i, true), false);
            due("4 makeFirm not " + i, x.makeFirm(i, false), false);
        }
        due("4 empty place", x.makeFirm(3, true), false);
        due("4 empty place", x.makeFirm(3, false), false);
        due("4 refused ones change nothing", x.mostInTime(), 2);
        due("4 the place is not firm later", x.put(11, 10, false), 3);
        due("4 the place is not firm later", x.mostInTime(), 2);
        due("4 firm", x.makeFirm(0, true), true);
        due("4 firm job is kept", x.mostInTime(), 1);
        due("4 firm again", x.makeFirm(0, true), true);
        due("4 firm again changes nothing", x.mostInTime(), 1);
        due("4 second firm one", x.makeFirm(1, true), true);
        due("4 both are too much", x.mostInTime(), LateJobAdmit.NONE);
        due("4 not firm", x.makeFirm(0, false), true);
        due("4 not firm any more", x.mostInTime(), 2);
        due("4 not firm again", x.makeFirm(0, false), true);
        due("4 not firm again changes nothing", x.mostInTime(), 2);
        LateJobAdmit full = filled(10, 1, 0);
        due("4 last place", full.makeFirm(9, true), true);
        due("4 last place", full.mostInTime(), LateJobAdmit.NONE);
    }

    private static void promise5Jobs() {
        LateJobAdmit x = new LateJobAdmit();
        for (int i = 0; i < 10; i++) {
            due("5 before put " + i, x.jobs(), i);
            x.put(50, 0, i % 2 == 0);
        }
        due("5 all places", x.jobs(), 10);
        x.put(1, 1, false);
        due("5 after a refused put", x.jobs(), 10);
        x.welcome(1, 200);
        due("5 after welcome", x.jobs(), 10);
        for (int i = 9; i >= 0; i--) {
            x.drop(i);
            due("5 after drop " + i, x.jobs(), i);
        }
    }

    private static void promise6Feasible() {
        LateJobAdmit x = new LateJobAdmit();
        x.put(4, 12, false);
        x.put(5, 5, false);
        x.put(3, 8, true);
        x.put(1, 0, true);
        due("6 the empty set", x.feasible(0), true);
        due("6 in time at its deadline", x.feasible(2), true);
        due("6 the places' order does not matter", x.feasible(7), true);
        due("6 two of them", x.feasible(3), true);
        due("6 deadline 0 is never met", x.feasible(8), false);
        due("6 nor with others", x.feasible(15), false);
        x.drop(0);
        x.put(5, 12, false);
        due("6 one too late", x.feasible(7), false);
        due("6 firm jobs need not be in the set", x.feasible(3), true);
        LateJobAdmit y = new LateJobAdmit();
        y.put(50, 200, false);
        y.put(3, 2, false);
        due("6 late by one at the front", y.feasible(3), false);
        LateJobAdmit z = filled(10, 20, 200);
        due("6 all jobs", z.feasible(1023), true);
        z.drop(4);
        z.put(21, 200, false);
        due("6 all jobs, late by one", z.feasible(1023), false);
        due("6 all but one", z.feasible(1023 - 16), true);
    }

    private static void promise6FeasibleWrongSets() {
        LateJobAdmit x = filled(10, 1, 200);
        int[] outside = {-1, 1024, 1025, 2047, 2048, -1024, 1 << 16, Integer.MIN_VALUE, Integer.MAX_VALUE};
        x.welcome(1, 200);
        for (int set : outside) {
            due("6 feasible " + set, x.feasible(set), false);
        }
        x.drop(9);
        due("6 an empty place in the set", x.feasible(512), false);
        due("6 an empty place among others", x.feasible(1023), false);
        due("6 without the empty place", x.feasible(511), true);
    }

    private static void promise7MostInTime() {
        LateJobAdmit x = new LateJobAdmit();
        x.put(10, 10, false);
        x.put(3, 11, false);
        x.put(4, 12, false);
        x.put(5, 12, false);
        due("7 the long one is left out", x.mostInTime(), 3);
        x.makeFirm(0, true);
        due("7 the long one is firm", x.mostInTime(), 1);
        x.put(1, 11, false);
        due("7 one fits behind it", x.mostInTime(), 2);
        x.put(2, 2, true);
        due("7 not solvable", x.mostInTime(), LateJobAdmit.NONE);
        x.drop(0);
        due("7 solvable again", x.mostInTime(), 4);
        LateJobAdmit y = filled(10, 20, 200);
        due("7 all of ten", y.mostInTime(), 10);
        LateJobAdmit z = filled(10, 1, 0);
        due("7 none of ten", z.mostInTime(), 0);
        due("7 no jobs", new LateJobAdmit().mostInTime(), 0);
    }

    private static void promise8LeastTime() {
        LateJobAdmit x = new LateJobAdmit();
        x.put(6, 10, false);
        x.put(5, 10, false);
        x.put(7, 10, false);
        due("8 the shortest of equal number", x.leastTime(), 5);
        x.makeFirm(2, true);
        due("8 the firm one counts", x.leastTime(), 7);
        x.put(3, 10, false);
        due("8 more jobs come before less time", x.leastTime(), 10);
        x.makeFirm(0, true);
        due("8 not solvable", x.leastTime(), LateJobAdmit.NONE);
        due("8 no jobs", new LateJobAdmit().leastTime(), 0);
        due("8 none in time", filled(4, 9, 8).leastTime(), 0);
        due("8 all of the time there is", filled(10, 20, 200).leastTime(), 200);
        due("8 four of the longest", filled(10, 50, 200).leastTime(), 200);
        LateJobAdmit y = new LateJobAdmit();
        y.put(8, 8, true);
        y.put(1, 8, false);
        due("8 firm comes before short", y.leastTime(), 8);
        LateJobAdmit z = new LateJobAdmit();
        z.put(1, 0, false);
        z.put(5, 10, false);
        due("8 a shorter one that is late does not count", z.leastTime(), 5);
    }

    private static void promise9Affordable() {
        LateJobAdmit x = new LateJobAdmit();
        x.put(10, 10, false);
        x.put(5, 10, false);
        x.put(5, 10, false);
        x.put(11, 10, false);
        due("9 costs one", x.affordable(0), false);
        due("9 costs none", x.affordable(1), true);
        due("9 costs none", x.affordable(2), true);
        due("9 never in time", x.affordable(3), false);
        due("9 nothing is made firm", x.mostInTime(), 2);
        x.makeFirm(1, true);
        due("9 a firm one", x.affordable(1), true);
        due("9 against a firm one", x.affordable(0), false);
        due("9 beside a firm one", x.affordable(2), true);
        LateJobAdmit y = new LateJobAdmit();
        y.put(9, 10, false);
        y.put(2, 10, false);
        due("9 as many, though not in the least time", y.affordable(0), true);
        due("9 leastTime stays", y.leastTime(), 2);
        LateJobAdmit z = filled(10, 20, 200);
        due("9 last place", z.affordable(9), true);
    }

    private static void promise9AffordableRefusals() {
        LateJobAdmit x = filled(3, 1, 100);
        for (int i : OUTSIDE_PLACES) {
            due("9 affordable " + i, x.affordable(i), false);
        }
        due("9 empty place", x.affordable(3), false);
        x.put(2, 1, true);
        for (int i = 0; i < 5; i++) {
            due("9 not solvable now " + i, x.affordable(i), false);
        }
        x.makeFirm(3, false);
        due("9 solvable again", x.affordable(0), true);
        due("9 solvable again, but not with this one", x.affordable(3), false);
    }

    private static void promise10Welcome() {
        LateJobAdmit x = new LateJobAdmit();
        due("10 to no jobs", x.welcome(5, 5), true);
        due("10 to no jobs, late", x.welcome(5, 4), false);
        due("10 deadline 0", x.welcome(1, 0), false);
        due("10 greatest", x.welcome(50, 200), true);
        int[][] bad = {{0, 10}, {51, 200}, {-1, 10}, {1, -1}, {1, 201}, {0, 201},
            {Integer.MIN_VALUE, 10}, {Integer.MAX_VALUE, 10}, {1, Integer.MIN_VALUE}, {1, Integer.MAX_VALUE}};
        for (int[] job : bad) {
            due("10 welcome " + job[0] + ", " + job[1], x.welcome(job[0], job[1]), false);
        }
        x.put(6, 10, false);
        due("10 both fit", x.welcome(4, 10), true);
        due("10 only one fits", x.welcome(5, 10), false);
        due("10 shorter, but not one more", x.welcome(5, 9), false);
        due("10 before the other one", x.welcome(4, 4), true);
        x.put(6, 16, false);
        x.put(7, 14, false);
        due("10 where others change places", x.welcome(4, 16), true);
        x.put(4, 3, true);
        due("10 not solvable now", x.welcome(1, 200), false);
        x.makeFirm(3, false);
        due("10 solvable again", x.welcome(1, 200), true);
        x.put(10, 10, true);
        due("10 the new job is not firm", x.welcome(10, 10), false);
        due("10 before a firm one", x.welcome(1, 9), false);
        due("10 behind a firm one, in another's stead", x.welcome(1, 16), false);
        due("10 behind a firm one", x.welcome(1, 17), true);
    }

    private static void promise10WelcomeFull() {
        LateJobAdmit x = filled(10, 15, 200);
        due("10 full, fits", x.welcome(50, 200), true);
        due("10 full, first", x.welcome(1, 1), true);
        LateJobAdmit y = filled(10, 16, 200);
        due("10 full, just fits", y.welcome(40, 200), true);
        due("10 full, just too long", y.welcome(41, 200), false);
        for (int i = 0; i < 10; i++) {
            y.makeFirm(i, true);
        }
        due("10 full of firm ones, just fits", y.welcome(40, 200), true);
        due("10 full of firm ones, too long", y.welcome(41, 200), false);
    }

    private static void promise10WelcomeChangesNothing() {
        LateJobAdmit x = filled(2, 5, 20);
        due("10 welcome", x.welcome(5, 20), true);
        due("10 no job more", x.jobs(), 2);
        due("10 place 2 is empty", x.feasible(4), false);
        due("10 mostInTime stays", x.mostInTime(), 2);
        due("10 leastTime stays", x.leastTime(), 10);
        due("10 nothing to elapse", x.elapse(0), 2);
        due("10 place 2 is next", x.put(1, 1, false), 2);
        due("10 welcome again", x.welcome(5, 20), true);
        due("10 other job", x.welcome(50, 20), false);
        due("10 the first again", x.welcome(5, 20), true);
    }

    private static void promise11Elapse() {
        LateJobAdmit x = new LateJobAdmit();
        x.put(1, 4, false);
        x.put(1, 5, false);
        x.put(1, 6, false);
        x.put(2, 200, false);
        due("11 no time", x.elapse(0), 4);
        due("11 no time changes nothing", x.mostInTime(), 4);
        due("11 one falls below 0", x.elapse(5), 3);
        due("11 its place is empty", x.feasible(1), false);
        due("11 a job at 0 stays", x.jobs(), 3);
        due("11 but is late", x.feasible(2), false);
        due("11 a job at 1 is in time", x.feasible(4), true);
        due("11 the places stay", x.feasible(12), true);
        due("11 the empty place is next", x.put(1, 1, false), 0);
        due("11 one more", x.elapse(1), 3);
        due("11 which one went", x.drop(1), LateJobAdmit.BAD);
        due("11 to the end", x.elapse(194), 1);
        due("11 the greatest deadline is 0", x.mostInTime(), 0);
        due("11 the rest", x.elapse(1), 0);
        due("11 nothing left", x.elapse(200), 0);
        due("11 deadline 200 stays", filled(10, 1, 200).elapse(200), 10);
        due("11 deadline 199 goes", filled(10, 1, 199).elapse(200), 0);
        due("11 lengths stay", elapsed(filled(1, 7, 17), 10).leastTime(), 7);
        due("11 lengths stay", elapsed(filled(1, 7, 17), 11).leastTime(), 0);
    }

    private static void promise11ElapseFirm() {
        LateJobAdmit x = new LateJobAdmit();
        x.put(5, 5, true);
        x.put(5, 20, false);
        due("11 firm and late", x.elapse(5), 2);
        due("11 firm and late", x.mostInTime(), LateJobAdmit.NONE);
        due("11 a firm one goes, too", x.elapse(1), 1);
        due("11 solvable again", x.mostInTime(), 1);
        due("11 its place is next", x.put(50, 1, false), 0);
        due("11 its place is not firm any more", x.mostInTime(), 1);
        x.makeFirm(1, true);
        x.elapse(2);
        due("11 the others stay firm", x.put(12, 12, false), 0);
        due("11 the others stay firm", x.affordable(0), false);
        due("11 until they can't be met", elapsed(x, 8).mostInTime(), LateJobAdmit.NONE);
    }

    private static void promise11ElapseBad() {
        LateJobAdmit x = filled(2, 10, 20);
        int[] outside = {-1, 201, -200, Integer.MIN_VALUE, Integer.MAX_VALUE};
        for (int t : outside) {
            due("11 elapse " + t, x.elapse(t), LateJobAdmit.BAD);
            due("11 no job goes at " + t, x.jobs(), 2);
            due("11 deadlines stay at " + t, x.mostInTime(), 2);
            due("11 deadlines do not grow at " + t, x.welcome(1, 20), false);
        }
    }

    private static LateJobAdmit filled(int count, int length, int deadline) {
        LateJobAdmit x = new LateJobAdmit();
        for (int i = 0; i < count; i++) {
            due("put into place " + i, x.put(length, deadline, false), i);
        }
        return x;
    }

    private static LateJobAdmit elapsed(LateJobAdmit x, int t) {
        x.elapse(t);
        return x;
    }

    private static void due(String what, int got, int want) {
        if (got != want) {
            wrong++;
            System.out.println("promise " + what + ": answered " + got + ", due is " + want);
        }
    }

    private static void due(String what, boolean got, boolean want) {
        due(what, got ? 1 : 0, want ? 1 : 0);
    }
}
