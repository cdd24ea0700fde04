/**
 * Pilots and tugs for a day's jobs: who does which job with the least travel together, and which
 * tugs go with it. The document DOC.md says what each call answers.
 */
public final class PilotTugs {

    public static final int NONE = -1;

    private static final int MOST_PEOPLE = 4;
    private static final int MOST_TUGS = 6;
    private static final int MOST_JOBS = 7;
    private static final int PLACES = 5;
    private static final int LAST_TIME = 2880;
    private static final int LONGEST_JOB = 600;
    private static final int LONGEST_TRAVEL = 300;
    private static final int FIRST_TRAVEL = 10;
    private static final int LONGEST_REST = 300;
    private static final int TOP_LICENCE = 5;
    private static final int MOST_PULL_OF_TUG = 100;
    private static final int MOST_PULL_OF_JOB = 300;
    private static final int MOST_SHARE = 1000000;

    private static final int RULE_NOT_EARLY = 1;
    private static final int RULE_TWO_JOBS = 2;
    private static final int RULE_FAILS_AT_TOP = 3;
    private static final int RULE_FAILS_ALWAYS = 4;
    private static final int EARLY_UP_TO = 360;

    private static final int WHATS_OF_JOB = 5;
    private static final int FIRST_FAILURES = 10;

    private final People people;
    private final Jobs jobs;
    private final Tugs tugs;
    private final Ways ways;
    private final Planner planner;
    private final Plan plan;

    public PilotTugs() {
        people = new People();
        jobs = new Jobs();
        tugs = new Tugs();
        ways = new Ways();
        planner = new Planner();
        plan = new Plan();
    }

    public int person(int licence, int from, int to, int home)
            throws IllegalArgumentException, IllegalStateException {
        if (!isLicence(licence) || !isSpan(from, to) || !isPlace(home)) {
            throw new IllegalArgumentException("licence, hours or home can't be");
        }
        if (people.size >= MOST_PEOPLE) {
            throw new IllegalStateException("no more people");
        }
        plan.made = false;
        return people.add(licence, from, to, home);
    }

    public int tug(int pull) throws IllegalArgumentException, IllegalStateException {
        if (!isWithin(pull, 1, MOST_PULL_OF_TUG)) {
            throw new IllegalArgumentException("pull can't be");
        }
        if (tugs.size >= MOST_TUGS) {
            throw new IllegalStateException("no more tugs");
        }
        plan.made = false;
        return tugs.add(pull);
    }

    public int job(int licence, int pull, int from, int to, int place)
            throws IllegalArgumentException, IllegalStateException {
        if (!isLicence(licence) || !isWithin(pull, 0, MOST_PULL_OF_JOB) || !isPlace(place)) {
            throw new IllegalArgumentException("licence, pull or place can't be");
        }
        if (!isSpan(from, to) || to - from > LONGEST_JOB) {
            throw new IllegalArgumentException("times can't be");
        }
        if (jobs.size >= MOST_JOBS) {
            throw new IllegalStateException("no more jobs");
        }
        plan.made = false;
        return jobs.add(licence, pull, from, to, place);
    }

    public boolean travels(int a, int b, int minutes) {
        if (!isPlace(a) || !isPlace(b) || a == b || !isWithin(minutes, 0, LONGEST_TRAVEL)) {
            return false;
        }
        plan.made = false;
        ways.tell(a, b, minutes);
        return true;
    }

    public boolean rest(int minutes) {
        if (!isWithin(minutes, 0, LONGEST_REST)) {
            return false;
        }
        plan.made = false;
        ways.restMinutes = minutes;
        return true;
    }

    public boolean rule(int person, int does) {
        if (!isPerson(person) || !isWithin(does, 0, RULE_FAILS_ALWAYS)) {
            return false;
        }
        plan.made = false;
        people.does[person] = does;
        return true;
    }

    public int assign() {
        makePlan();
        return plan.given == 0 ? NONE : plan.travel;
    }

    public int of(int job, int what) throws IndexOutOfBoundsException, IllegalStateException {
        if (!isJob(job) || !isWithin(what, 0, WHATS_OF_JOB - 1)) {
            throw new IndexOutOfBoundsException("no such job or what");
        }
        if (!plan.made) {
            throw new IllegalStateException("no plan");
        }
        switch (what) {
            case 0:
                return plan.doer[job];
            case 1:
                return plan.travelTo[job];
            case 2:
                return plan.tugsOf[job];
            case 3:
                return plan.without[job];
            default:
                return whyNobody(job);
        }
    }

    public int late(int job, int from)
            throws IndexOutOfBoundsException, IllegalArgumentException, IllegalStateException {
        if (!isJob(job)) {
            throw new IndexOutOfBoundsException("no such job");
        }
        if (!isWithin(from, 0, LAST_TIME) || !isSpan(from, from + jobs.minutesOf(job))) {
            throw new IllegalArgumentException("times can't be");
        }
        if (!plan.made) {
            throw new IllegalStateException("no plan");
        }
        plan.keepDoers();
        jobs.move(job, from);
        makePlan();
        return plan.otherDoers(jobs.size);
    }

    public int day(int person, int i) throws IndexOutOfBoundsException, IllegalStateException {
        if (!isPerson(person)) {
            throw new IndexOutOfBoundsException("nobody such");
        }
        if (!plan.made) {
            throw new IllegalStateException("no plan");
        }
        int seen = 0;
        for (int k = 0; k < jobs.size; k++) {
            int job = jobs.inOrder[k];
            if (plan.doer[job] == person) {
                if (seen == i) {
                    return job;
                }
                seen++;
            }
        }
        return NONE;
    }

    public int waits(int person) throws IndexOutOfBoundsException, IllegalStateException {
        if (!isPerson(person)) {
            throw new IndexOutOfBoundsException("nobody such");
        }
        if (!plan.made) {
            throw new IllegalStateException("no plan");
        }
        int waited = 0;
        int free = people.from[person];
        for (int k = 0; k < jobs.size; k++) {
            int job = jobs.inOrder[k];
            if (plan.doer[job] == person) {
                waited += jobs.from[job] - free - plan.travelTo[job];
                free = jobs.to[job];
            }
        }
        return waited;
    }

    public int share(int part, int all) throws IllegalArgumentException, ArithmeticException {
        if (!isWithin(part, 0, MOST_SHARE) || !isWithin(all, 0, MOST_SHARE)) {
            throw new IllegalArgumentException("part or all can't be");
        }
        if (all == 0) {
            throw new ArithmeticException("a share of nothing");
        }
        return 100 * part / all;
    }

    public int count(int what) {
        if (what >= FIRST_FAILURES) {
            int person = what - FIRST_FAILURES;
            return isPerson(person) ? people.failures[person] : NONE;
        }
        switch (what) {
            case 0:
                return people.size;
            case 1:
                return tugs.size;
            case 2:
                return jobs.size;
            case 3:
                return plan.made ? 1 : 0;
            case 4:
                return plan.made ? plan.given : NONE;
            case 5:
                return plan.made ? plan.barred : NONE;
            default:
                return NONE;
        }
    }

    private static boolean isWithin(int number, int least, int most) {
        return number >= least && number <= most;
    }

    private static boolean isLicence(int licence) {
        return isWithin(licence, 1, TOP_LICENCE);
    }

    private static boolean isPlace(int place) {
        return isWithin(place, 0, PLACES - 1);
    }

    private static boolean isSpan(int from, int to) {
        return from >= 0 && from < to && to <= LAST_TIME;
    }

    private boolean isPerson(int person) {
        return isWithin(person, 0, people.size - 1);
    }

    private boolean isJob(int job) {
        return isWithin(job, 0, jobs.size - 1);
    }

    private void makePlan() {
        jobs.putInOrder();
        plan.barred = people.askRules(jobs);
        planner.divide(people, jobs, ways, plan);
        plan.walk(people, jobs, ways);
        tugs.serve(jobs, plan);
        plan.made = true;
    }

    private int whyNobody(int job) {
        if (plan.doer[job] != NONE) {
            return 0;
        }
        int why = 1;
        for (int p = 0; p < people.size; p++) {
            if (plan.isBarred(p) || people.licence[p] < jobs.licence[job]) {
                continue;
            }
            if (planner.travelOf(people, jobs, ways, p, 1 << job) != NONE) {
                return 3;
            }
            why = 2;
        }
        return why;
    }

    private static final class People {
        int size = 0;
        final int[] licence = new int[MOST_PEOPLE];
        final int[] from = new int[MOST_PEOPLE];
        final int[] to = new int[MOST_PEOPLE];
        final int[] home = new int[MOST_PEOPLE];
        final int[] does = new int[MOST_PEOPLE];
        final int[] failures = new int[MOST_PEOPLE];

        /** The caller has looked that there is room. */
        int add(int newLicence, int newFrom, int newTo, int newHome) {
            int person = size;
            licence[person] = newLicence;
            from[person] = newFrom;
            to[person] = newTo;
            home[person] = newHome;
            size++;
            return person;
        }

        /** Asks each rule of all jobs, counts the failures, and answers who is barred, as bits. */
        int askRules(Jobs jobs) {
            int barred = 0;
            for (int p = 0; p < size; p++) {
                if (failsForOne(does[p], jobs)) {
                    failures[p]++;
                    barred |= 1 << p;
                }
            }
            return barred;
        }

        private static boolean failsForOne(int rule, Jobs jobs) {
            for (int j = 0; j < jobs.size; j++) {
                if (rule == RULE_FAILS_ALWAYS) {
                    return true;
                }
                if (rule == RULE_FAILS_AT_TOP && jobs.licence[j] == TOP_LICENCE) {
                    return true;
                }
            }
            return false;
        }

        /** If licence, rule and the end of the hours leave the job, whatever stands ahead of it. */
        boolean isFit(int person, int job, Jobs jobs) {
            if (licence[person] < jobs.licence[job] || jobs.to[job] > to[person]) {
                return false;
            }
            return does[person] != RULE_NOT_EARLY || jobs.from[job] >= EARLY_UP_TO;
        }
    }

    private static final class Jobs {
        int size = 0;
        final int[] licence = new int[MOST_JOBS];
        final int[] pull = new int[MOST_JOBS];
        final int[] from = new int[MOST_JOBS];
        final int[] to = new int[MOST_JOBS];
        final int[] place = new int[MOST_JOBS];
        /** The jobs by their beginnings, then numbers; it holds as long as the plan does. */
        final int[] inOrder = new int[MOST_JOBS];

        /** The caller has looked that there is room. */
        int add(int newLicence, int newPull, int newFrom, int newTo, int newPlace) {
            int job = size;
            licence[job] = newLicence;
            pull[job] = newPull;
            from[job] = newFrom;
            to[job] = newTo;
            place[job] = newPlace;
            size++;
            return job;
        }

        int minutesOf(int job) {
            return to[job] - from[job];
        }

        void move(int job, int newFrom) {
            to[job] = newFrom + minutesOf(job);
            from[job] = newFrom;
        }

        void putInOrder() {
            for (int job = 0; job < size; job++) {
                int k = job;
                while (k > 0 && from[inOrder[k - 1]] > from[job]) {
                    inOrder[k] = inOrder[k - 1];
                    k--;
                }
                inOrder[k] = job;
            }
        }

        boolean overlap(int a, int b) {
            return from[a] < to[b] && from[b] < to[a];
        }
    }

    private static final class Ways {
        int restMinutes = 0;
        private final int[] minutes = new int[PLACES * PLACES];

        Ways() {
            for (int a = 0; a < PLACES; a++) {
                for (int b = 0; b < PLACES; b++) {
                    minutes[a * PLACES + b] = a == b ? 0 : FIRST_TRAVEL;
                }
            }
        }

        void tell(int a, int b, int newMinutes) {
            minutes[a * PLACES + b] = newMinutes;
            minutes[b * PLACES + a] = newMinutes;
        }

        int between(int a, int b) {
            return minutes[a * PLACES + b];
        }
    }

    /** What a plan says of each job and of all together. */
    private static final class Plan {
        boolean made = false;
        int barred = 0;
        int given = 0;
        int travel = 0;
        final int[] doer = new int[MOST_JOBS];
        final int[] travelTo = new int[MOST_JOBS];
        final int[] tugsOf = new int[MOST_JOBS];
        final int[] without = new int[MOST_JOBS];
        private final int[] doerBefore = new int[MOST_JOBS];

        boolean isBarred(int person) {
            return ((barred >> person) & 1) != 0;
        }

        void keepDoers() {
            System.arraycopy(doer, 0, doerBefore, 0, MOST_JOBS);
        }

        int otherDoers(int size) {
            int others = 0;
            for (int j = 0; j < size; j++) {
                if (doer[j] != doerBefore[j]) {
                    others++;
                }
            }
            return others;
        }

        /** Fills what follows from the doers: the travel to each job, and the sums. */
        void walk(People people, Jobs jobs, Ways ways) {
            given = 0;
            travel = 0;
            for (int j = 0; j < jobs.size; j++) {
                travelTo[j] = NONE;
            }
            for (int p = 0; p < people.size; p++) {
                walkOf(p, people.home[p], jobs, ways);
            }
        }

        private void walkOf(int person, int home, Jobs jobs, Ways ways) {
            int at = home;
            for (int k = 0; k < jobs.size; k++) {
                int job = jobs.inOrder[k];
                if (doer[job] == person) {
                    travelTo[job] = ways.between(at, jobs.place[job]);
                    travel += travelTo[job];
                    given++;
                    at = jobs.place[job];
                }
            }
        }
    }

    /**
     * Divides the jobs among the people. The cost of a way to divide them is one number, so that
     * the least cost is the due plan: on top how many jobs nobody does, below it the travel, below
     * it a digit for each job, job 0's highest: its person, or MOST_PEOPLE for nobody. All three
     * parts add up over people, and the digits of the least cost are the plan itself.
     */
    private static final class Planner {
        private static final int SETS = 1 << MOST_JOBS;
        private static final int DIGIT_BITS = 3;
        private static final int DIGIT_MASK = (1 << DIGIT_BITS) - 1;
        private static final int TRAVEL_SHIFT = DIGIT_BITS * MOST_JOBS;
        private static final int NOBODY_SHIFT = 40;

        /** For each set of jobs the least cost of all of it among the people looked at. */
        private final long[] least = new long[SETS];
        /** For each set of jobs the cost of one person's doing just these, or NONE. */
        private final long[] own = new long[SETS];

        void divide(People people, Jobs jobs, Ways ways, Plan plan) {
            int sets = 1 << jobs.size;
            giveToNobody(jobs.size);
            for (int p = 0; p < people.size; p++) {
                if (!plan.isBarred(p)) {
                    costOwn(people, jobs, ways, p);
                    joinOwn(sets);
                }
            }
            long cost = least[sets - 1];
            for (int j = 0; j < jobs.size; j++) {
                int digit = (int) (cost >> digitShift(j)) & DIGIT_MASK;
                plan.doer[j] = digit < MOST_PEOPLE ? digit : NONE;
            }
        }

        /** The travel of a person who does just these jobs; NONE if they may not. */
        int travelOf(People people, Jobs jobs, Ways ways, int person, int set) {
            if (people.does[person] == RULE_TWO_JOBS && Integer.bitCount(set) > 2) {
                return NONE;
            }
            int at = people.home[person];
            int free = people.from[person];
            int travel = 0;
            for (int k = 0; k < jobs.size; k++) {
                int job = jobs.inOrder[k];
                if (((set >> job) & 1) != 0) {
                    int way = ways.between(at, jobs.place[job]);
                    if (!people.isFit(person, job, jobs) || jobs.from[job] < free + way) {
                        return NONE;
                    }
                    travel += way;
                    at = jobs.place[job];
                    free = jobs.to[job] + ways.restMinutes;
                }
            }
            return travel;
        }

        private static int digitShift(int job) {
            return DIGIT_BITS * (MOST_JOBS - 1 - job);
        }

        private static long digits(int set, int size, int digit) {
            long sum = 0;
            for (int j = 0; j < size; j++) {
                if (((set >> j) & 1) != 0) {
                    sum += (long) digit << digitShift(j);
                }
            }
            return sum;
        }

        private void giveToNobody(int size) {
            int sets = 1 << size;
            for (int set = 0; set < sets; set++) {
                long nobody = (long) Integer.bitCount(set) << NOBODY_SHIFT;
                least[set] = nobody + digits(set, size, MOST_PEOPLE);
            }
        }

        private void costOwn(People people, Jobs jobs, Ways ways, int person) {
            int sets = 1 << jobs.size;
            for (int set = 0; set < sets; set++) {
                int travel = travelOf(people, jobs, ways, person, set);
                if (travel == NONE) {
                    own[set] = NONE;
                } else {
                    own[set] = ((long) travel << TRAVEL_SHIFT) + digits(set, jobs.size, person);
                }
            }
        }

        /** From the greatest set down, for a set's parts must still be those without the person. */
        private void joinOwn(int sets) {
            for (int set = sets - 1; set > 0; set--) {
                long best = least[set];
                // part falls at each turn, through all parts of the set but the empty one
                for (int part = set; part > 0; part = (part - 1) & set) {
                    if (own[part] != NONE) {
                        best = Math.min(best, own[part] + least[set ^ part]);
                    }
                }
                least[set] = best;
            }
        }
    }

    private static final class Tugs {
        int size = 0;
        private final int[] pull = new int[MOST_TUGS];

        /** The caller has looked that there is room. */
        int add(int newPull) {
            int tug = size;
            pull[tug] = newPull;
            size++;
            return tug;
        }

        /** Gives tugs to the plan's jobs, one job behind the other. */
        void serve(Jobs jobs, Plan plan) {
            for (int j = 0; j < jobs.size; j++) {
                plan.tugsOf[j] = 0;
                plan.without[j] = 0;
            }
            for (int k = 0; k < jobs.size; k++) {
                int job = jobs.inOrder[k];
                if (plan.doer[job] != NONE && jobs.pull[job] > 0) {
                    int chosen = choose(freeFor(job, jobs, plan), jobs.pull[job]);
                    plan.tugsOf[job] = chosen;
                    plan.without[job] = chosen == 0 ? 1 : 0;
                }
            }
        }

        private int freeFor(int job, Jobs jobs, Plan plan) {
            int free = (1 << size) - 1;
            for (int j = 0; j < jobs.size; j++) {
                if (jobs.overlap(j, job)) {
                    free &= ~plan.tugsOf[j];
                }
            }
            return free;
        }

        /** The best set of free tugs that has the pull together; the empty one if there is none. */
        private int choose(int free, int need) {
            int best = 0;
            for (int set = 1; set <= free; set++) {
                if ((set & free) == set && pullOf(set) >= need
                        && (best == 0 || isBetter(set, best))) {
                    best = set;
                }
            }
            return best;
        }

        private boolean isBetter(int set, int other) {
            int fewer = Integer.bitCount(set) - Integer.bitCount(other);
            if (fewer != 0) {
                return fewer < 0;
            }
            int lighter = pullOf(set) - pullOf(other);
            if (lighter != 0) {
                return lighter < 0;
            }
            // of as many tugs those are first that have the least tug of all that just one has
            int differing = set ^ other;
            return (set & differing & -differing) != 0;
        }

        private int pullOf(int set) {
            int sum = 0;
            for (int t = 0; t < size; t++) {
                if (((set >> t) & 1) != 0) {
                    sum += pull[t];
                }
            }
            return sum;
        }
    }
}
