import java.util.ArrayList;
import java.util.List;
import java.util.Random;

/**
 * Runs of chosen-at-random calls (with fixed seeds) beside a slow reading of the document that
 * looks at every way to give the jobs, and every set of tugs, one after the other.
 */
public final class OracleTest {
    private static final int RUNS = 3000;
    /** The document leaves what an object answers behind this many calls free. */
    private static final int MOST_CALLS = 512;
    private static final int CALLS_OF_ALL = 9 * 7 + 6 * 10 + 18;
    private static final int CALLS_OF_STEP = 8 + CALLS_OF_ALL;
    private static final int[] WILD = {
        Integer.MIN_VALUE, -1, 0, 1, 4, 5, 6, 7, 9, 10, 13, 14, 300, 301, 600, 2880, 2881, Integer.MAX_VALUE
    };

    /** The document read word by word. */
    private static final class Slow {
        final List<int[]> people = new ArrayList<>(); // licence, from, to, home, rule, failures
        final List<int[]> jobs = new ArrayList<>(); // licence, pull, from, to, place
        final List<Integer> tugs = new ArrayList<>();
        final int[][] travel = new int[5][5];
        int rest = 0;
        boolean planned = false;
        List<Boolean> barred = new ArrayList<>();
        int[] plan = {};
        int bestGiven;
        int bestTravel;
        List<List<Integer>> tugsOf = new ArrayList<>();
        boolean[] without = {};

        Slow() {
            for (int a = 0; a < 5; a++) {
                for (int b = 0; b < 5; b++) {
                    travel[a][b] = a == b ? 0 : 10;
                }
            }
        }

        int person(int licence, int from, int to, int home) {
            if (licence < 1 || licence > 5 || from < 0 || to > 2880 || to <= from || home < 0 || home > 4) {
                throw new IllegalArgumentException();
            }
            if (people.size() == 4) {
                throw new IllegalStateException();
            }
            people.add(new int[] {licence, from, to, home, 0, 0});
            planned = false;
            return people.size() - 1;
        }

        int tug(int pull) {
            if (pull < 1 || pull > 100) {
                throw new IllegalArgumentException();
            }
            if (tugs.size() == 6) {
                throw new IllegalStateException();
            }
            tugs.add(pull);
            planned = false;
            return tugs.size() - 1;
        }

        int job(int licence, int pull, int from, int to, int place) {
            if (licence < 1 || licence > 5 || pull < 0 || pull > 300 || place < 0 || place > 4
                    || from < 0 || to > 2880 || to <= from || to > from + 600) {
                throw new IllegalArgumentException();
            }
            if (jobs.size() == 7) {
                throw new IllegalStateException();
            }
            jobs.add(new int[] {licence, pull, from, to, place});
            planned = false;
            return jobs.size() - 1;
        }

        int travels(int a, int b, int minutes) {
            if (a < 0 || a > 4 || b < 0 || b > 4 || a == b || minutes < 0 || minutes > 300) {
                return 0;
            }
            travel[a][b] = minutes;
            travel[b][a] = minutes;
            planned = false;
            return 1;
        }

        int restIs(int minutes) {
            if (minutes < 0 || minutes > 300) {
                return 0;
            }
            rest = minutes;
            planned = false;
            return 1;
        }

        int rule(int person, int does) {
            if (person < 0 || person >= people.size() || does < 0 || does > 4) {
                return 0;
            }
            people.get(person)[4] = does;
            planned = false;
            return 1;
        }

        /** The numbers of the jobs, by beginnings, then numbers. */
        List<Integer> byBeginning() {
            List<Integer> order = new ArrayList<>();
            for (int j = 0; j < jobs.size(); j++) {
                order.add(j);
            }
            order.sort((a, b) -> jobs.get(a)[2] != jobs.get(b)[2]
                    ? Integer.compare(jobs.get(a)[2], jobs.get(b)[2]) : Integer.compare(a, b));
            return order;
        }

        List<Integer> dayOf(int[] given, int p) {
            List<Integer> day = new ArrayList<>();
            for (int j : byBeginning()) {
                if (j < given.length && given[j] == p) {
                    day.add(j);
                }
            }
            return day;
        }

        /** The travel, or -1 if the person may not do these jobs. */
        int travelOfDay(int p, List<Integer> day) {
            int[] who = people.get(p);
            if (!day.isEmpty() && barred.get(p)) {
                return -1;
            }
            if (who[4] == 2 && day.size() > 2) {
                return -1;
            }
            int sum = 0;
            for (int i = 0; i < day.size(); i++) {
                int[] job = jobs.get(day.get(i));
                if (who[0] < job[0] || (who[4] == 1 && job[2] < 360)) {
                    return -1;
                }
                int way;
                if (i == 0) {
                    way = travel[who[3]][job[4]];
                    if (job[2] < who[1] + way) {
                        return -1;
                    }
                } else {
                    int[] before = jobs.get(day.get(i - 1));
                    way = travel[before[4]][job[4]];
                    if (job[2] == before[2] || job[2] < before[3] + rest + way) {
                        return -1;
                    }
                }
                sum += way;
                if (i == day.size() - 1 && job[3] > who[2]) {
                    return -1;
                }
            }
            return sum;
        }

        void look(int[] given, int j) {
            if (j == given.length) {
                int total = 0;
                for (int p = 0; p < people.size(); p++) {
                    int one = travelOfDay(p, dayOf(given, p));
                    if (one < 0) {
                        return;
                    }
                    total += one;
                }
                int n = 0;
                for (int g : given) {
                    n += g >= 0 ? 1 : 0;
                }
                if (n > bestGiven || (n == bestGiven && total < bestTravel)) {
                    bestGiven = n;
                    bestTravel = total;
                    plan = given.clone();
                }
                return;
            }
            for (int p = 0; p < people.size(); p++) {
                // whoever may not do a job alone is skipped here only to end sooner
                given[j] = p;
                if (travelOfDay(p, List.of(j)) >= 0 || mayFollow(p, j)) {
                    look(given, j + 1);
                }
            }
            given[j] = -1;
            look(given, j + 1);
        }

        /** A job too near the hours' beginning may still be reached from another place. */
        boolean mayFollow(int p, int j) {
            int[] who = people.get(p);
            int[] job = jobs.get(j);
            return !barred.get(p) && who[0] >= job[0] && job[3] <= who[2] && job[2] > who[1];
        }

        void make() {
            barred = new ArrayList<>();
            for (int[] who : people) {
                boolean fails = false;
                for (int[] job : jobs) {
                    fails |= who[4] == 4 || (who[4] == 3 && job[0] == 5);
                }
                barred.add(fails);
                who[5] += fails ? 1 : 0;
            }
            bestGiven = -1;
            bestTravel = 0;
            look(new int[jobs.size()], 0);
            giveTugs();
            planned = true;
        }

        void giveTugs() {
            tugsOf = new ArrayList<>();
            without = new boolean[jobs.size()];
            for (int j = 0; j < jobs.size(); j++) {
                tugsOf.add(new ArrayList<>());
            }
            for (int j : byBeginning()) {
                int[] job = jobs.get(j);
                if (plan[j] < 0 || job[1] == 0) {
                    continue;
                }
                List<Integer> free = new ArrayList<>();
                for (int t = 0; t < tugs.size(); t++) {
                    boolean busy = false;
                    for (int o = 0; o < jobs.size(); o++) {
                        boolean apart = jobs.get(o)[3] <= job[2] || jobs.get(o)[2] >= job[3];
                        busy |= !apart && tugsOf.get(o).contains(t);
                    }
                    if (!busy) {
                        free.add(t);
                    }
                }
                List<Integer> best = null;
                for (int n = 1; n <= free.size() && best == null; n++) {
                    best = leastOf(free, n, 0, new ArrayList<>(), job[1], null);
                }
                if (best == null) {
                    without[j] = true;
                } else {
                    tugsOf.set(j, best);
                }
            }
        }

        /** All choices of n tugs in the order of lists; the first with the least pull is kept. */
        List<Integer> leastOf(List<Integer> free, int n, int at, List<Integer> chosen, int need, List<Integer> best) {
            if (chosen.size() == n) {
                int sum = pull(chosen);
                boolean better = sum >= need && (best == null || sum < pull(best));
                return better ? new ArrayList<>(chosen) : best;
            }
            for (int i = at; i < free.size(); i++) {
                chosen.add(free.get(i));
                best = leastOf(free, n, i + 1, chosen, need, best);
                chosen.remove(chosen.size() - 1);
            }
            return best;
        }

        int pull(List<Integer> some) {
            int sum = 0;
            for (int t : some) {
                sum += tugs.get(t);
            }
            return sum;
        }

        int assign() {
            make();
            return bestGiven == 0 ? -1 : bestTravel;
        }

        int of(int job, int what) {
            if (job < 0 || job >= jobs.size() || what < 0 || what > 4) {
                throw new IndexOutOfBoundsException();
            }
            mustBePlanned();
            int p = plan[job];
            if (what == 0) {
                return p;
            }
            if (what == 1) {
                if (p < 0) {
                    return -1;
                }
                List<Integer> day = dayOf(plan, p);
                int i = day.indexOf(job);
                int from = i == 0 ? people.get(p)[3] : jobs.get(day.get(i - 1))[4];
                return travel[from][jobs.get(job)[4]];
            }
            if (what == 2) {
                int bits = 0;
                for (int t : tugsOf.get(job)) {
                    bits |= 1 << t;
                }
                return bits;
            }
            if (what == 3) {
                return without[job] ? 1 : 0;
            }
            return why(job);
        }

        int why(int job) {
            if (plan[job] >= 0) {
                return 0;
            }
            boolean licensed = false;
            boolean alone = false;
            for (int p = 0; p < people.size(); p++) {
                if (!barred.get(p)) {
                    licensed |= people.get(p)[0] >= jobs.get(job)[0];
                    alone |= travelOfDay(p, List.of(job)) >= 0;
                }
            }
            return !licensed ? 1 : !alone ? 2 : 3;
        }

        int late(int job, int from) {
            if (job < 0 || job >= jobs.size()) {
                throw new IndexOutOfBoundsException();
            }
            int[] it = jobs.get(job);
            int lasts = it[3] - it[2];
            if (from < 0 || from > 2880 - lasts) {
                throw new IllegalArgumentException();
            }
            mustBePlanned();
            it[2] = from;
            it[3] = from + lasts;
            int[] before = plan.clone();
            make();
            int others = 0;
            for (int j = 0; j < before.length; j++) {
                others += before[j] != plan[j] ? 1 : 0;
            }
            return others;
        }

        int day(int person, int i) {
            mustBePerson(person);
            mustBePlanned();
            List<Integer> day = dayOf(plan, person);
            return i >= 0 && i < day.size() ? day.get(i) : -1;
        }

        int waits(int person) {
            mustBePerson(person);
            mustBePlanned();
            int sum = 0;
            int free = people.get(person)[1];
            for (int j : dayOf(plan, person)) {
                sum += jobs.get(j)[2] - free - of(j, 1);
                free = jobs.get(j)[3];
            }
            return sum;
        }

        int share(int part, int all) {
            if (part < 0 || part > 1000000 || all < 0 || all > 1000000) {
                throw new IllegalArgumentException();
            }
            if (all == 0) {
                throw new ArithmeticException();
            }
            return (int) (100L * part / all);
        }

        int count(int what) {
            if (what == 0) {
                return people.size();
            }
            if (what == 1) {
                return tugs.size();
            }
            if (what == 2) {
                return jobs.size();
            }
            if (what == 3) {
                return planned ? 1 : 0;
            }
            if (what == 4) {
                return planned ? bestGiven : -1;
            }
            if (what == 5) {
                int bits = 0;
                for (int p = 0; p < barred.size(); p++) {
                    bits |= barred.get(p) ? 1 << p : 0;
                }
                return planned ? bits : -1;
            }
            return what >= 10 && what < 10 + people.size() ? people.get(what - 10)[5] : -1;
        }

        void mustBePerson(int person) {
            if (person < 0 || person >= people.size()) {
                throw new IndexOutOfBoundsException();
            }
        }

        void mustBePlanned() {
            if (!planned) {
                throw new IllegalStateException();
            }
        }
    }

    private final Check check = new Check();
    private final Random random;
    private final PilotTugs fast = new PilotTugs();
    private final Slow slow = new Slow();
    private final String name;
    private int calls = 0;
    /** The day is short in some runs, so that equal times, ties and refusals are common. */
    private final int span;

    private OracleTest(int seed) {
        random = new Random(seed);
        name = "seed " + seed + ": ";
        span = new int[] {60, 200, 700, 2880}[seed % 4];
    }

    private int below(int n) {
        return random.nextInt(n);
    }

    private int wildOr(int usual) {
        return below(60) == 0 ? WILD[below(WILD.length)] : usual;
    }

    private int step(int most) {
        int step = span <= 60 ? 5 : span <= 200 ? 10 : 20;
        return below(most / step + 1) * step;
    }

    private void same(String call, java.util.function.IntSupplier a, java.util.function.IntSupplier b) {
        calls++;
        check.dueText(name + call, Check.outcome(a), Check.outcome(b));
    }

    private void tellPerson() {
        int l = wildOr(1 + below(5));
        int from = wildOr(step(span / 3));
        int to = wildOr(from + 1 + step(span));
        int home = wildOr(below(5));
        same("person(" + l + ", " + from + ", " + to + ", " + home + ")",
                () -> fast.person(l, from, to, home), () -> slow.person(l, from, to, home));
    }

    private void tellJob() {
        int l = wildOr(1 + below(4) + below(10) / 9);
        int pull = wildOr(below(3) == 0 ? 0 : 10 * below(20));
        int from = wildOr(step(span));
        int to = wildOr(from + 5 + step(Math.min(595, span / 4)));
        int place = wildOr(below(5));
        same("job(" + l + ", " + pull + ", " + from + ", " + to + ", " + place + ")",
                () -> fast.job(l, pull, from, to, place), () -> slow.job(l, pull, from, to, place));
    }

    private void tellTug() {
        int pull = wildOr(10 * (1 + below(10)));
        same("tug(" + pull + ")", () -> fast.tug(pull), () -> slow.tug(pull));
    }

    private void tellOther() {
        int a = wildOr(below(5));
        int b = wildOr(below(5));
        int m = wildOr(below(10) == 0 ? step(300) : 5 * below(6));
        switch (below(4)) {
            case 0:
                same("travels(" + a + ", " + b + ", " + m + ")",
                        () -> fast.travels(a, b, m) ? 1 : 0, () -> slow.travels(a, b, m));
                break;
            case 1:
                same("rest(" + m + ")", () -> fast.rest(m) ? 1 : 0, () -> slow.restIs(m));
                break;
            default:
                same("rule(" + a + ", " + b + ")", () -> fast.rule(a, b) ? 1 : 0, () -> slow.rule(a, b));
        }
    }

    private void makePlan() {
        int job = wildOr(below(7));
        int from = wildOr(step(span));
        if (below(3) == 0) {
            same("late(" + job + ", " + from + ")", () -> fast.late(job, from), () -> slow.late(job, from));
        } else {
            same("assign()", () -> fast.assign(), () -> slow.assign());
        }
    }

    private void askAll() {
        for (int j = -1; j < 8; j++) {
            for (int w = -1; w < 6; w++) {
                int job = j;
                int what = w;
                same("of(" + j + ", " + w + ")", () -> fast.of(job, what), () -> slow.of(job, what));
            }
        }
        for (int p = -1; p < 5; p++) {
            int person = p;
            same("waits(" + p + ")", () -> fast.waits(person), () -> slow.waits(person));
            for (int i = -1; i < 8; i++) {
                int at = i;
                same("day(" + p + ", " + i + ")", () -> fast.day(person, at), () -> slow.day(person, at));
            }
        }
        for (int w = -2; w < 16; w++) {
            int what = w;
            same("count(" + w + ")", () -> fast.count(what), () -> slow.count(what));
        }
    }

    private void askWildly() {
        int a = wildOr(WILD[below(WILD.length)]);
        int b = wildOr(below(2000));
        same("share(" + a + ", " + b + ")", () -> fast.share(a, b), () -> slow.share(a, b));
        same("share(" + b + ", " + a + ")", () -> fast.share(b, a), () -> slow.share(b, a));
        same("of(" + a + ", " + b + ")", () -> fast.of(a, b), () -> slow.of(a, b));
        same("day(0, " + a + ")", () -> fast.day(0, a), () -> slow.day(0, a));
        same("waits(" + a + ")", () -> fast.waits(a), () -> slow.waits(a));
        same("late(0, " + a + ")", () -> fast.late(0, a), () -> slow.late(0, a));
        same("count(" + a + ")", () -> fast.count(a), () -> slow.count(a));
    }

    private boolean run() {
        while (calls + CALLS_OF_STEP + CALLS_OF_ALL <= MOST_CALLS && !check.hasWrong()) {
            switch (below(8)) {
                case 0:
                    tellPerson();
                    break;
                case 1:
                case 2:
                    tellJob();
                    break;
                case 3:
                    tellTug();
                    break;
                case 4:
                    tellOther();
                    break;
                case 5:
                    askWildly();
                    break;
                default:
                    makePlan();
                    if (below(12) == 0) {
                        askAll();
                    }
            }
        }
        askAll();
        check.due(name + "calls within the document's limit", calls <= MOST_CALLS, true);
        return !check.hasWrong();
    }

    public static void main(String[] args) {
        int runs = args.length > 0 ? Integer.parseInt(args[0]) : RUNS;
        for (int seed = 0; seed < runs; seed++) {
            OracleTest test = new OracleTest(seed);
            if (!test.run()) {
                System.exit(1);
            }
        }
        System.out.println(runs + " runs beside the slow reading, all the same");
    }
}
