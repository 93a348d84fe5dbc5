import java.util.ArrayList;
import java.util.HashSet;
import java.util.List;
import java.util.Set;

/**
 * Long runs of calls, each answer against a model that takes the document's terms word by word:
 * a set is feasible iff some job can be the last of a list, the rest being feasible without it.
 * The runs must have met each method after each other one and as the last call of an object.
 */
public final class ModelTest {
    private static final int RUNS = 300;
    private static final int CALLS = 512;

    private static final List<String> METHODS = List.of("put", "drop", "makeFirm", "jobs", "feasible",
        "mostInTime", "leastTime", "affordable", "welcome", "elapse");
    private static final List<String> ANSWERS = List.of("put 0", "put 9", "put FULL", "put BAD", "drop 0", "drop 9",
        "drop BAD", "makeFirm true", "makeFirm false", "jobs 0", "jobs 10", "feasible true", "feasible false",
        "mostInTime 0", "mostInTime 10", "mostInTime NONE", "leastTime 0", "leastTime NONE", "affordable true",
        "affordable false", "welcome true", "welcome false", "elapse 0", "elapse 10", "elapse BAD");

    private static final Set<String> met = new HashSet<>();
    private static int wrong = 0;
    private static long seed;

    private static final class Job {
        final int length;
        final int deadline;
        final boolean firm;

        Job(int length, int deadline, boolean firm) {
            this.length = length;
            this.deadline = deadline;
            this.firm = firm;
        }
    }

    private static final class Model {
        private final Job[] places = new Job[10];

        int put(int length, int deadline, boolean firm) {
            for (int i = 0; i < 10; i++) {
                if (places[i] == null) {
                    if (!allowed(length, deadline)) {
                        return LateJobAdmit.BAD;
                    }
                    places[i] = new Job(length, deadline, firm);
                    return i;
                }
            }
            return LateJobAdmit.FULL;
        }

        int drop(int i) {
            if (isEmpty(i)) {
                return LateJobAdmit.BAD;
            }
            places[i] = null;
            return jobs();
        }

        boolean makeFirm(int i, boolean firm) {
            if (isEmpty(i)) {
                return false;
            }
            places[i] = new Job(places[i].length, places[i].deadline, firm);
            return true;
        }

        int jobs() {
            return held().size();
        }

        boolean feasible(int set) {
            if (set < 0 || set > 1023) {
                return false;
            }
            List<Job> jobs = new ArrayList<>();
            for (int i = 0; i < 10; i++) {
                if ((set & 1 << i) != 0) {
                    if (places[i] == null) {
                        return false;
                    }
                    jobs.add(places[i]);
                }
            }
            return feasibleSets(jobs)[(1 << jobs.size()) - 1];
        }

        int mostInTime() {
            return best(held())[0];
        }

        int leastTime() {
            return best(held())[1];
        }

        boolean affordable(int i) {
            if (isEmpty(i) || mostInTime() == LateJobAdmit.NONE) {
                return false;
            }
            int before = mostInTime();
            Job job = places[i];
            places[i] = new Job(job.length, job.deadline, true);
            int after = mostInTime();
            places[i] = job;
            return after == before;
        }

        boolean welcome(int length, int deadline) {
            int before = mostInTime();
            if (before == LateJobAdmit.NONE || !allowed(length, deadline)) {
                return false;
            }
            List<Job> jobs = held();
            jobs.add(new Job(length, deadline, false));
            return best(jobs)[0] > before;
        }

        int elapse(int t) {
            if (t < 0 || t > 200) {
                return LateJobAdmit.BAD;
            }
            for (int i = 0; i < 10; i++) {
                Job job = places[i];
                if (job != null) {
                    places[i] = job.deadline < t ? null : new Job(job.length, job.deadline - t, job.firm);
                }
            }
            return jobs();
        }

        private boolean isEmpty(int i) {
            return i < 0 || i > 9 || places[i] == null;
        }

        private List<Job> held() {
            List<Job> jobs = new ArrayList<>();
            for (Job job : places) {
                if (job != null) {
                    jobs.add(job);
                }
            }
            return jobs;
        }

        private static boolean allowed(int length, int deadline) {
            return 1 <= length && length <= 50 && 0 <= deadline && deadline <= 200;
        }

        private static int sum(List<Job> jobs, int set) {
            int sum = 0;
            for (int i = 0; i < jobs.size(); i++) {
                if ((set & 1 << i) != 0) {
                    sum += jobs.get(i).length;
                }
            }
            return sum;
        }

        private static boolean[] feasibleSets(List<Job> jobs) {
            boolean[] feasible = new boolean[1 << jobs.size()];
            feasible[0] = true;
            for (int set = 1; set < feasible.length; set++) {
                int sum = sum(jobs, set);
                for (int last = 0; last < jobs.size(); last++) {
                    if ((set & 1 << last) != 0 && sum <= jobs.get(last).deadline && feasible[set & ~(1 << last)]) {
                        feasible[set] = true;
                    }
                }
            }
            return feasible;
        }

        /** The greatest number of a good set, and the least time of those. */
        private static int[] best(List<Job> jobs) {
            int firm = 0;
            for (int i = 0; i < jobs.size(); i++) {
                if (jobs.get(i).firm) {
                    firm |= 1 << i;
                }
            }
            boolean[] feasible = feasibleSets(jobs);
            int[] best = {LateJobAdmit.NONE, LateJobAdmit.NONE};
            for (int set = 0; set < feasible.length; set++) {
                if (feasible[set] && (set & firm) == firm) {
                    int count = Integer.bitCount(set);
                    int sum = sum(jobs, set);
                    if (count > best[0] || count == best[0] && sum < best[1]) {
                        best = new int[] {count, sum};
                    }
                }
            }
            return best;
        }
    }

    public static void main(String[] args) {
        for (int run = 0; run < RUNS; run++) {
            seed = 7919L * run + 1;
            run(run);
        }
        metAllThatIsDue();
        System.out.println(wrong == 0 ? "all answers are as due" : wrong + " answers are not as due");
        if (wrong != 0) {
            System.exit(1);
        }
    }

    private static void run(int run) {
        LateJobAdmit x = new LateJobAdmit();
        Model model = new Model();
        // Runs differ in how long jobs are against their deadlines and in how many are firm,
        // so that both solvable and not solvable states, and both full and thin ones, are met often.
        int longest = 1 + below(50);
        int latest = 1 + below(200);
        int firmPercent = below(40);
        int drops = below(4);
        String before = "new";
        for (int call = 1; call <= CALLS; call++) {
            boolean firm = below(100) < firmPercent;
            int length = sometimesWrong(1 + below(longest));
            int deadline = sometimesWrong(below(latest + 1));
            int place = sometimesWrong(below(10));
            String method = METHODS.get(methodOf(below(12 + drops)));
            String at = "run " + run + " call " + call + ": " + method;
            switch (method) {
                case "put" -> due(at + "(" + length + ", " + deadline + ", " + firm + ")",
                    x.put(length, deadline, firm), meet(method, model.put(length, deadline, firm)));
                case "drop" -> due(at + "(" + place + ")", x.drop(place), meet(method, model.drop(place)));
                case "makeFirm" -> due(at + "(" + place + ", " + firm + ")",
                    x.makeFirm(place, firm), meet(method, model.makeFirm(place, firm)));
                case "jobs" -> due(at + "()", x.jobs(), meet(method, model.jobs()));
                case "feasible" -> {
                    int set = sometimesWrong(below(1024) & (below(2) == 0 ? 1023 : below(1024)));
                    due(at + "(" + set + ")", x.feasible(set), meet(method, model.feasible(set)));
                }
                case "mostInTime" -> due(at + "()", x.mostInTime(), meet(method, model.mostInTime()));
                case "leastTime" -> due(at + "()", x.leastTime(), meet(method, model.leastTime()));
                case "affordable" -> due(at + "(" + place + ")",
                    x.affordable(place), meet(method, model.affordable(place)));
                case "welcome" -> due(at + "(" + length + ", " + deadline + ")",
                    x.welcome(length, deadline), meet(method, model.welcome(length, deadline)));
                default -> {
                    int t = sometimesWrong(below(10) == 0 ? below(latest + 1) : below(4));
                    due(at + "(" + t + ")", x.elapse(t), meet(method, model.elapse(t)));
                }
            }
            met.add(before + " then " + method);
            before = method;
        }
        met.add(before + " last");
    }

    /** Puts and questions of feasible come more often than the rest, and drops as often as the run has it. */
    private static int methodOf(int number) {
        int[] methods = {0, 0, 0, 2, 3, 4, 4, 5, 6, 7, 8, 9};
        return number < methods.length ? methods[number] : 1;
    }

    private static int meet(String method, int answer) {
        String word = switch (answer) {
            case LateJobAdmit.BAD -> "BAD";
            case LateJobAdmit.FULL -> "FULL";
            case LateJobAdmit.NONE -> "NONE";
            default -> String.valueOf(answer);
        };
        met.add(method + " " + word);
        return answer;
    }

    private static boolean meet(String method, boolean answer) {
        met.add(method + " " + answer);
        return answer;
    }

    private static void metAllThatIsDue() {
        List<String> due = new ArrayList<>(ANSWERS);
        for (String method : METHODS) {
            due.add("new then " + method);
            due.add(method + " last");
            for (String next : METHODS) {
                due.add(method + " then " + next);
            }
        }
        for (String what : due) {
            if (!met.contains(what)) {
                wrong++;
                System.out.println("the runs never met: " + what);
            }
        }
    }

    private static int sometimesWrong(int usual) {
        int[] odd = {-1, 0, 10, 11, 50, 51, 200, 201, 1023, 1024, 2047, Integer.MIN_VALUE, Integer.MAX_VALUE};
        return below(25) == 0 ? odd[below(odd.length)] : usual;
    }

    /** A fixed series, so that each run of the test makes the same calls. */
    private static int below(int bound) {
        seed = seed * 6364136223846793005L + 1442695040888963407L;
        return (int) ((seed >>> 33) % bound);
    }

    private static void due(String call, int got, int want) {
        if (got != want) {
            wrong++;
            System.out.println(call + " answered " + got + ", due is " + want);
        }
    }

    private static void due(String call, boolean got, boolean want) {
        due(call, got ? 1 : 0, want ? 1 : 0);
    }
}
