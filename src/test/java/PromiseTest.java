/** Each promise of the document: ordinary inputs, the edges that it names, and wrong inputs. */
public final class PromiseTest {
    private static final Class<IllegalArgumentException> ARGUMENT = IllegalArgumentException.class;
    private static final Class<IllegalStateException> STATE = IllegalStateException.class;
    private static final Class<IndexOutOfBoundsException> INDEX = IndexOutOfBoundsException.class;
    private static final int LOW = Integer.MIN_VALUE;
    private static final int HIGH = Integer.MAX_VALUE;

    private static final Check CHECK = new Check();

    public static void main(String[] args) {
        newObject();
        personTells();
        personRefuses();
        tugTells();
        jobTells();
        jobRefuses();
        travelsTells();
        restTells();
        ruleTells();
        rulesOfPlan();
        rulesThatFail();
        whoMayDo();
        assignGivesMost();
        assignTravelsLeast();
        assignTakesFirst();
        ofJob();
        whyNobody();
        tugsOfJobs();
        tugsInOrder();
        lateMoves();
        lateRefuses();
        dayOfPerson();
        waitsOfPerson();
        shares();
        counts();
        planBecomesVoid();
        refusedChangesNothing();
        objectsAreApart();
        CHECK.end();
    }

    private static void due(String call, int got, int want) {
        CHECK.due(call, got, want);
    }

    private static void due(String call, boolean got, boolean want) {
        CHECK.due(call, got, want);
    }

    private static void newObject() {
        PilotTugs x = new PilotTugs();
        for (int what = 0; what <= 3; what++) {
            due("1: count(" + what + ")", x.count(what), 0);
        }
        due("1: count(4)", x.count(4), -1);
        due("1: count(5)", x.count(5), -1);
        due("1: count(10)", x.count(10), -1);
        CHECK.dueThrow("1: of", INDEX, () -> x.of(0, 0));
        CHECK.dueThrow("1: day", INDEX, () -> x.day(0, 0));
        CHECK.dueThrow("1: waits", INDEX, () -> x.waits(0));
        due("1: assign() of nothing", x.assign(), -1);
        due("1: a plan it is all the same", x.count(3), 1);
    }

    private static void personTells() {
        PilotTugs x = new PilotTugs();
        due("2: least", x.person(1, 0, 1, 0), 0);
        due("2: most", x.person(5, 2879, 2880, 4), 1);
        due("2: whole day", x.person(5, 0, 2880, 4), 2);
        due("2: fourth", x.person(3, 10, 20, 2), 3);
        due("2: people", x.count(0), 4);
        CHECK.dueThrow("2: fifth", STATE, () -> x.person(3, 10, 20, 2));
        CHECK.dueThrow("2: fifth that can't be", ARGUMENT, () -> x.person(6, 10, 20, 2));
        due("2: people after refusal", x.count(0), 4);
    }

    private static void personRefuses() {
        PilotTugs x = new PilotTugs();
        int[][] wrong = {
            {0, 0, 1, 0}, {6, 0, 1, 0}, {LOW, 0, 1, 0}, {HIGH, 0, 1, 0},
            {1, -1, 1, 0}, {1, 5, 5, 0}, {1, 6, 5, 0}, {1, 0, 2881, 0}, {1, 2880, 2881, 0}, {1, 2880, 2880, 0},
            {1, LOW, HIGH, 0}, {1, HIGH, LOW, 0}, {1, 0, HIGH, 0},
            {1, 0, 1, -1}, {1, 0, 1, 5}, {1, 0, 1, LOW}, {1, 0, 1, HIGH},
        };
        for (int[] w : wrong) {
            CHECK.dueThrow("2: person(" + java.util.Arrays.toString(w) + ")", ARGUMENT,
                    () -> x.person(w[0], w[1], w[2], w[3]));
        }
        due("2: nobody was told", x.count(0), 0);
    }

    private static void tugTells() {
        PilotTugs x = new PilotTugs();
        for (int wrong : new int[] {0, -1, 101, LOW, HIGH}) {
            CHECK.dueThrow("3: tug(" + wrong + ")", ARGUMENT, () -> x.tug(wrong));
        }
        due("3: least", x.tug(1), 0);
        due("3: most", x.tug(100), 1);
        for (int t = 2; t < 6; t++) {
            due("3: tug " + t, x.tug(50), t);
        }
        CHECK.dueThrow("3: seventh", STATE, () -> x.tug(50));
        CHECK.dueThrow("3: seventh that can't be", ARGUMENT, () -> x.tug(0));
        due("3: tugs", x.count(1), 6);
    }

    private static void jobTells() {
        PilotTugs x = new PilotTugs();
        due("4: least", x.job(1, 0, 0, 1, 0), 0);
        due("4: most", x.job(5, 300, 2279, 2879, 4), 1);
        due("4: up to the end", x.job(5, 300, 2280, 2880, 4), 2);
        for (int j = 3; j < 7; j++) {
            due("4: job " + j, x.job(3, 10, 100, 200, 2), j);
        }
        CHECK.dueThrow("4: eighth", STATE, () -> x.job(3, 10, 100, 200, 2));
        CHECK.dueThrow("4: eighth that can't be", ARGUMENT, () -> x.job(3, 10, 100, 100, 2));
        due("4: jobs", x.count(2), 7);
    }

    private static void jobRefuses() {
        PilotTugs x = new PilotTugs();
        int[][] wrong = {
            {0, 0, 0, 1, 0}, {6, 0, 0, 1, 0}, {LOW, 0, 0, 1, 0}, {HIGH, 0, 0, 1, 0},
            {1, -1, 0, 1, 0}, {1, 301, 0, 1, 0}, {1, LOW, 0, 1, 0}, {1, HIGH, 0, 1, 0},
            {1, 0, -1, 1, 0}, {1, 0, 5, 5, 0}, {1, 0, 6, 5, 0}, {1, 0, 0, 601, 0}, {1, 0, 2500, 2881, 0},
            {1, 0, 2880, 2881, 0}, {1, 0, LOW, HIGH, 0}, {1, 0, HIGH, LOW, 0}, {1, 0, LOW, 1, 0}, {1, 0, 0, HIGH, 0},
            {1, 0, 0, 1, -1}, {1, 0, 0, 1, 5}, {1, 0, 0, 1, LOW}, {1, 0, 0, 1, HIGH},
        };
        for (int[] w : wrong) {
            CHECK.dueThrow("4: job(" + java.util.Arrays.toString(w) + ")", ARGUMENT,
                    () -> x.job(w[0], w[1], w[2], w[3], w[4]));
        }
        due("4: no job was told", x.count(2), 0);
    }

    private static void travelsTells() {
        PilotTugs x = new PilotTugs();
        x.person(1, 0, 2880, 1);
        x.job(1, 0, 1000, 1100, 3);
        due("5: 10 at first", x.assign(), 10);
        due("5: tells", x.travels(3, 1, 300), true);
        due("5: in both directions", x.assign(), 300);
        due("5: tells", x.travels(1, 3, 0), true);
        due("5: least", x.assign(), 0);
        due("5: another pair", x.travels(3, 4, 77), true);
        due("5: another pair alone", x.assign(), 0);
        int[][] wrong = {
            {0, 0, 10}, {4, 4, 0}, {-1, 0, 10}, {0, -1, 10}, {5, 0, 10}, {0, 5, 10}, {0, 1, -1}, {0, 1, 301},
            {LOW, 0, 0}, {0, HIGH, 0}, {0, 1, LOW}, {0, 1, HIGH},
        };
        for (int[] w : wrong) {
            due("5: travels(" + java.util.Arrays.toString(w) + ")", x.travels(w[0], w[1], w[2]), false);
        }
        PilotTugs home = new PilotTugs();
        home.person(1, 0, 100, 2);
        home.job(1, 0, 0, 10, 2);
        due("5: 0 to itself", home.assign(), 0);
    }

    private static void restTells() {
        PilotTugs x = new PilotTugs();
        x.person(1, 0, 2880, 0);
        x.job(1, 0, 0, 10, 0);
        x.job(1, 0, 310, 320, 0);
        for (int wrong : new int[] {-1, 301, LOW, HIGH}) {
            due("6: rest(" + wrong + ")", x.rest(wrong), false);
        }
        x.assign();
        due("6: 0 at first", x.count(4), 2);
        due("6: most", x.rest(300), true);
        x.assign();
        due("6: just rested", x.count(4), 2);
        x.late(1, 309);
        due("6: not rested", x.count(4), 1);
        due("6: none again", x.rest(0), true);
        x.assign();
        due("6: without rest", x.count(4), 2);
    }

    private static void ruleTells() {
        PilotTugs x = new PilotTugs();
        due("7: nobody yet", x.rule(0, 0), false);
        x.person(1, 0, 2880, 0);
        for (int does = 0; does <= 4; does++) {
            due("7: rule(0, " + does + ")", x.rule(0, does), true);
        }
        for (int wrong : new int[] {-1, 5, LOW, HIGH}) {
            due("7: rule(0, " + wrong + ")", x.rule(0, wrong), false);
        }
        for (int nobody : new int[] {-1, 1, 4, LOW, HIGH}) {
            due("7: rule(" + nobody + ", 0)", x.rule(nobody, 0), false);
        }
    }

    private static void rulesOfPlan() {
        PilotTugs x = new PilotTugs();
        x.person(5, 0, 2880, 0);
        x.job(5, 0, 359, 360, 0);
        x.job(1, 0, 360, 361, 0);
        x.job(1, 0, 400, 410, 0);
        x.assign();
        due("7: rule 0 at first", x.count(4), 3);
        x.rule(0, 1);
        x.assign();
        due("7: rule 1 gives two", x.count(4), 2);
        due("7: rule 1, ahead of 360", x.of(0, 0), -1);
        due("7: rule 1, at 360", x.of(1, 0), 0);
        due("7: rule 1 does not fail", x.count(10), 0);
        x.rule(0, 2);
        x.assign();
        due("7: rule 2 gives two", x.count(4), 2);
        due("7: rule 2, the first jobs", x.of(2, 0), -1);
        due("7: rule 2 does not fail", x.count(5), 0);
        x.rule(0, 0);
        x.assign();
        due("7: rule 0 again", x.count(4), 3);
    }

    private static void rulesThatFail() {
        PilotTugs x = new PilotTugs();
        x.person(4, 0, 2880, 0);
        x.person(5, 0, 2880, 0);
        x.rule(0, 3);
        x.rule(1, 4);
        due("7: no job to fail for", x.assign(), -1);
        due("7: nobody barred without jobs", x.count(5), 0);
        x.job(4, 0, 100, 110, 0);
        due("7: rule 4 fails", x.assign(), 0);
        due("7: rule 4 bars", x.count(5), 2);
        due("7: rule 3 holds without licence 5", x.of(0, 0), 0);
        due("7: failures of rule 3", x.count(10), 0);
        due("7: failures of rule 4", x.count(11), 1);
        x.job(5, 0, 200, 210, 0);
        x.job(5, 0, 300, 310, 0);
        due("7: all fail", x.assign(), -1);
        due("7: both barred", x.count(5), 3);
        due("7: one failure a plan", x.count(10), 1);
        due("7: two plans", x.count(11), 2);
        due("7: why, with all barred", x.of(0, 4), 1);
        x.assign();
        due("7: made again, asked again", x.count(10), 2);
        x.rule(0, 0);
        x.rule(1, 0);
        x.assign();
        due("7: failures stay", x.count(11), 3);
        due("7: bars are of one plan", x.count(5), 0);
        due("7: all jobs given", x.count(4), 3);
    }

    /** One person with hours 100 up to 500, home 4, and one job: given or not. */
    private static int givenOf(int licence, int from, int to, int place) {
        PilotTugs x = new PilotTugs();
        x.person(3, 100, 500, 4);
        x.travels(4, 0, 50);
        x.job(licence, 0, from, to, place);
        x.assign();
        return x.count(4);
    }

    /** Two jobs of one person who rests 5 and travels 20 between them: how many are given. */
    private static int givenOfTwo(int from, int to, int from2, int to2) {
        PilotTugs x = new PilotTugs();
        x.person(3, 0, 500, 0);
        x.rest(5);
        x.travels(1, 2, 20);
        x.job(1, 0, from, to, 1);
        x.job(1, 0, from2, to2, 2);
        x.assign();
        return x.count(4);
    }

    private static void whoMayDo() {
        due("8: licence just enough", givenOf(3, 200, 300, 0), 1);
        due("8: licence too low", givenOf(4, 200, 300, 0), 0);
        due("8: just there from home", givenOf(1, 150, 300, 0), 1);
        due("8: not there from home", givenOf(1, 149, 300, 0), 0);
        due("8: at home as the hours begin", givenOf(1, 100, 300, 4), 1);
        due("8: ahead of the hours", givenOf(1, 99, 300, 4), 0);
        due("8: ends with the hours", givenOf(1, 200, 500, 0), 1);
        due("8: ends behind the hours", givenOf(1, 200, 501, 0), 0);
        due("8: rested and travelled", givenOfTwo(10, 50, 75, 80), 2);
        due("8: not rested and travelled", givenOfTwo(10, 50, 74, 80), 1);
        due("8: by beginnings, not by numbers", givenOfTwo(75, 80, 10, 50), 2);
        due("8: of equal beginnings one", givenOfTwo(100, 101, 100, 200), 1);
        due("8: the last ends with the hours", givenOfTwo(10, 50, 75, 500), 2);
        due("8: the last ends behind them", givenOfTwo(10, 50, 75, 501), 1);
        PilotTugs x = new PilotTugs();
        x.person(1, 0, 500, 0);
        x.travels(0, 2, 200);
        x.job(1, 0, 100, 110, 2);
        x.job(1, 0, 10, 20, 1);
        due("8: what can't be alone may be behind another", x.assign(), 20);
        due("8: both are given", x.count(4), 2);
    }

    private static void assignGivesMost() {
        PilotTugs x = new PilotTugs();
        x.person(1, 0, 1000, 0);
        x.job(1, 0, 0, 300, 0);
        x.travels(0, 1, 30);
        x.job(1, 0, 40, 100, 1);
        x.job(1, 0, 140, 200, 0);
        due("8: two with travel ahead of one without", x.assign(), 60);
        due("8: the long one is left", x.of(0, 0), -1);
        due("8: given", x.count(4), 2);
        x.person(1, 0, 1000, 2);
        due("8: with a second person all three", x.assign(), 40);
        due("8: given", x.count(4), 3);
        due("8: the long one", x.of(0, 0), 0);
    }

    private static void assignTravelsLeast() {
        PilotTugs x = new PilotTugs();
        x.person(1, 0, 1000, 0);
        x.person(1, 0, 1000, 1);
        x.job(1, 0, 100, 110, 1);
        x.job(1, 0, 200, 210, 0);
        due("8: each at home", x.assign(), 0);
        due("8: job 0", x.of(0, 0), 1);
        due("8: job 1", x.of(1, 0), 0);
        PilotTugs y = new PilotTugs();
        y.person(1, 0, 1000, 0);
        y.person(1, 0, 1000, 2);
        y.travels(0, 1, 90);
        y.travels(2, 1, 60);
        y.travels(2, 3, 25);
        y.travels(0, 3, 40);
        y.travels(1, 3, 10);
        y.job(1, 0, 100, 110, 1);
        y.job(1, 0, 200, 210, 3);
        due("8: one after the other, not home again", y.assign(), 70);
        due("8: both by person 1", y.of(0, 0) + 10 * y.of(1, 0), 11);
    }

    private static void assignTakesFirst() {
        PilotTugs x = new PilotTugs();
        x.person(1, 0, 1000, 0);
        x.person(1, 0, 1000, 0);
        x.job(1, 0, 100, 200, 0);
        x.job(1, 0, 90, 120, 0);
        x.job(1, 0, 110, 130, 0);
        due("8: no travel", x.assign(), 0);
        due("8: job 0 has the less person", x.of(0, 0), 0);
        due("8: job 1 has the other", x.of(1, 0), 1);
        due("8: none last", x.of(2, 0), -1);
        PilotTugs y = new PilotTugs();
        for (int p = 0; p < 4; p++) {
            y.person(5, 0, 2880, 0);
        }
        for (int j = 0; j < 7; j++) {
            y.job(1, 0, 100, 700, 0);
        }
        due("8: seven at once", y.assign(), 0);
        for (int j = 0; j < 7; j++) {
            due("8: at once, job " + j, y.of(j, 0), j < 4 ? j : -1);
        }
        PilotTugs z = new PilotTugs();
        z.person(1, 0, 1000, 0);
        z.person(2, 0, 1000, 0);
        z.job(1, 0, 100, 200, 0);
        z.job(2, 0, 100, 200, 0);
        z.job(1, 0, 300, 400, 0);
        z.assign();
        due("8: the less person for job 2", z.of(2, 0), 0);
    }

    private static void ofJob() {
        PilotTugs x = new PilotTugs();
        x.person(1, 0, 1000, 0);
        x.travels(0, 1, 30);
        x.travels(1, 2, 40);
        x.job(1, 0, 200, 210, 2);
        x.job(1, 0, 100, 110, 1);
        x.job(1, 0, 100, 110, 3);
        CHECK.dueThrow("9: no plan", STATE, () -> x.of(0, 0));
        CHECK.dueThrow("9: no plan and no such job", INDEX, () -> x.of(3, 0));
        CHECK.dueThrow("9: no plan and no such what", INDEX, () -> x.of(0, 5));
        due("9: assign", x.assign(), 20);
        due("9: job 2 is nearer", x.of(2, 0), 0);
        x.travels(0, 3, 100);
        due("9: assign", x.assign(), 70);
        due("9: person", x.of(0, 0), 0);
        due("9: travel to the second", x.of(0, 1), 40);
        due("9: travel from home", x.of(1, 1), 30);
        due("9: person of none", x.of(2, 0), -1);
        due("9: travel of none", x.of(2, 1), -1);
        due("9: tugs of none", x.of(2, 2), 0);
        for (int job : new int[] {-1, 3, 7, LOW, HIGH}) {
            CHECK.dueThrow("9: of(" + job + ", 0)", INDEX, () -> x.of(job, 0));
        }
        for (int what : new int[] {-1, 5, LOW, HIGH}) {
            CHECK.dueThrow("9: of(0, " + what + ")", INDEX, () -> x.of(0, what));
        }
    }

    private static void whyNobody() {
        PilotTugs x = new PilotTugs();
        x.person(3, 0, 1000, 0);
        x.person(5, 0, 500, 0);
        x.job(3, 0, 600, 700, 0);
        x.job(3, 0, 600, 700, 0);
        x.job(4, 0, 600, 700, 0);
        x.job(5, 0, 100, 200, 0);
        x.assign();
        due("9: it has one", x.of(0, 4), 0);
        due("9: otherwise", x.of(1, 4), 3);
        due("9: nobody may alone", x.of(2, 4), 2);
        due("9: it has one", x.of(3, 4), 0);
        x.rule(1, 3);
        x.assign();
        due("9: barred counts as nobody", x.of(2, 4), 1);
        due("9: barred counts as nobody", x.of(3, 4), 1);
        PilotTugs y = new PilotTugs();
        y.job(1, 0, 0, 1, 0);
        y.assign();
        due("9: there is nobody", y.of(0, 4), 1);
        y.person(1, 0, 1000, 0);
        y.rule(0, 1);
        y.assign();
        due("9: the rule leaves it not", y.of(0, 4), 2);
        PilotTugs z = new PilotTugs();
        z.person(1, 0, 1000, 0);
        z.person(2, 0, 100, 0);
        z.rule(0, 4);
        z.job(1, 0, 100, 200, 0);
        z.assign();
        due("9: who may is barred, who is licensed may not", z.of(0, 4), 2);
    }

    /** What the tugs of one job are, as bits, of tugs with these pulls. */
    private static int tugsFor(int need, int... pulls) {
        PilotTugs x = new PilotTugs();
        x.person(1, 0, 1000, 0);
        for (int pull : pulls) {
            x.tug(pull);
        }
        x.job(1, need, 100, 200, 0);
        x.assign();
        return x.of(0, 2) + 1000 * x.of(0, 3);
    }

    private static void tugsOfJobs() {
        due("9: needs none", tugsFor(0, 50), 0);
        due("9: just the pull", tugsFor(50, 50), 1);
        due("9: too little", tugsFor(51, 50), 1000);
        due("9: no tugs at all", tugsFor(1), 1000);
        due("9: together", tugsFor(100, 50, 50), 3);
        due("9: one ahead of two that are lighter", tugsFor(20, 10, 100, 10), 2);
        due("9: the least pull", tugsFor(30, 90, 40, 30, 60), 4);
        due("9: the least pull together", tugsFor(100, 90, 80, 60, 50), 12);
        due("9: the first of equal ones", tugsFor(30, 20, 40, 40, 40), 2);
        due("9: 0 and 3 ahead of 1 and 2", tugsFor(100, 20, 40, 60, 80), 9);
        due("9: 0 and 4 ahead of 2 and 3", tugsFor(70, 10, 5, 30, 40, 60), 17);
        due("9: all six", tugsFor(300, 50, 50, 50, 50, 50, 50), 63);
        due("9: all six too little", tugsFor(300, 50, 50, 50, 50, 50, 49), 1000);
        due("9: three of six", tugsFor(300, 99, 100, 99, 100, 99, 100), 42);
    }

    private static void tugsInOrder() {
        PilotTugs x = new PilotTugs();
        for (int p = 0; p < 4; p++) {
            x.person(5, 0, 1000, 0);
        }
        x.tug(50);
        x.tug(50);
        x.job(1, 50, 150, 250, 0);
        x.job(1, 50, 100, 200, 0);
        x.job(1, 100, 150, 160, 0);
        x.job(1, 100, 250, 300, 0);
        x.job(1, 50, 199, 260, 0);
        x.assign();
        due("9: given", x.count(4), 5);
        due("9: the first to begin", x.of(1, 2), 1);
        due("9: then the less number", x.of(0, 2), 2);
        due("9: none left for it", x.of(2, 2), 0);
        due("9: it goes without", x.of(2, 3), 1);
        due("9: none of one that overlaps by a minute", x.of(4, 3), 1);
        due("9: times that touch", x.of(3, 2), 3);
        due("9: with tugs is not without", x.of(3, 3), 0);
        PilotTugs z = new PilotTugs();
        z.person(1, 0, 1000, 0);
        z.person(1, 0, 1000, 0);
        z.tug(50);
        z.job(1, 50, 100, 200, 0);
        z.job(1, 50, 100, 200, 0);
        z.assign();
        due("9: of equal beginnings the less number", z.of(0, 2), 1);
        due("9: then there is none left", z.of(1, 3), 1);
        PilotTugs y = new PilotTugs();
        y.person(1, 0, 1000, 0);
        y.tug(50);
        y.job(2, 50, 100, 200, 0);
        y.job(1, 50, 100, 200, 0);
        y.assign();
        due("9: no tugs without a person", y.of(0, 2), 0);
        due("9: nor does it go WITHOUT", y.of(0, 3), 0);
        due("9: they are left for the other", y.of(1, 2), 1);
    }

    private static void lateMoves() {
        PilotTugs x = new PilotTugs();
        x.person(1, 0, 2880, 0);
        x.person(1, 0, 300, 0);
        x.job(1, 0, 100, 200, 0);
        x.job(1, 0, 150, 250, 0);
        x.job(1, 0, 220, 300, 0);
        x.assign();
        due("10: ahead", x.of(0, 0) + 10 * x.of(1, 0) + 100 * x.of(2, 0), 10);
        due("10: the same time", x.late(0, 100), 0);
        due("10: none counts as one", x.late(0, 201), 1);
        due("10: job 0 lasts as long, so it stays person 0's", x.of(0, 0), 0);
        due("10: job 1 stays person 1's", x.of(1, 0), 1);
        due("10: job 2 is nobody's", x.of(2, 0), -1);
        due("10: two have another person", x.late(0, 2780), 2);
        due("10: job 2 was nobody's", x.of(2, 0), 1);
        due("10: job 1 was person 1's", x.of(1, 0), 0);
        due("10: it is at the end", x.day(0, 1), 0);
        due("10: there is a plan", x.count(3), 1);
        due("10: earlier", x.late(0, 0), 0);
        due("10: it moved for good", x.waits(0), 50);
        x.rule(1, 4);
        x.assign();
        due("10: failures by assign", x.count(11), 1);
        due("10: fails again", x.late(0, 0), 0);
        due("10: failures by late", x.count(11), 2);
    }

    private static void lateRefuses() {
        PilotTugs x = new PilotTugs();
        x.person(1, 0, 2880, 0);
        x.job(1, 0, 100, 200, 0);
        CHECK.dueThrow("10: no plan", STATE, () -> x.late(0, 100));
        CHECK.dueThrow("10: no plan, times that can't be", ARGUMENT, () -> x.late(0, 2781));
        CHECK.dueThrow("10: no plan, no such job", INDEX, () -> x.late(1, 2781));
        x.assign();
        due("10: up to the end", x.late(0, 2780), 0);
        x.late(0, 100);
        for (int from : new int[] {-1, 2781, 2880, LOW, HIGH, HIGH - 50}) {
            CHECK.dueThrow("10: late(0, " + from + ")", ARGUMENT, () -> x.late(0, from));
        }
        for (int job : new int[] {-1, 1, 7, LOW, HIGH}) {
            CHECK.dueThrow("10: late(" + job + ", 0)", INDEX, () -> x.late(job, 0));
        }
        due("10: nothing changed", x.waits(0), 100);
        x.rest(0);
        CHECK.dueThrow("10: no plan any more", STATE, () -> x.late(0, 500));
        x.assign();
        due("10: nothing changed without a plan", x.waits(0), 100);
    }

    private static void dayOfPerson() {
        PilotTugs x = new PilotTugs();
        CHECK.dueThrow("11: nobody such, no plan", INDEX, () -> x.day(0, 0));
        x.person(1, 0, 1000, 0);
        x.person(1, 0, 1000, 0);
        x.job(1, 0, 500, 600, 0);
        x.job(1, 0, 100, 200, 0);
        x.job(1, 0, 300, 400, 0);
        CHECK.dueThrow("11: no plan", STATE, () -> x.day(0, 0));
        x.assign();
        due("11: first", x.day(0, 0), 1);
        due("11: second", x.day(0, 1), 2);
        due("11: third", x.day(0, 2), 0);
        for (int i : new int[] {-1, 3, 7, LOW, HIGH}) {
            due("11: day(0, " + i + ")", x.day(0, i), -1);
        }
        due("11: without jobs", x.day(1, 0), -1);
        for (int p : new int[] {-1, 2, 4, LOW, HIGH}) {
            CHECK.dueThrow("11: day(" + p + ", 0)", INDEX, () -> x.day(p, 0));
        }
    }

    private static void waitsOfPerson() {
        PilotTugs x = new PilotTugs();
        CHECK.dueThrow("12: nobody such, no plan", INDEX, () -> x.waits(0));
        x.person(1, 50, 1000, 0);
        x.person(1, 50, 1000, 0);
        x.rest(7);
        x.travels(0, 1, 30);
        x.job(1, 0, 300, 310, 0);
        x.job(1, 0, 100, 200, 1);
        CHECK.dueThrow("12: no plan", STATE, () -> x.waits(0));
        due("12: assign", x.assign(), 30);
        due("12: without travel", x.waits(0), 250);
        due("12: less travel", x.waits(1), 20);
        x.rule(1, 4);
        due("12: one for both", x.assign(), 60);
        due("12: 20 ahead and 70 between", x.waits(0), 90);
        due("12: without jobs", x.waits(1), 0);
        for (int p : new int[] {-1, 2, 4, LOW, HIGH}) {
            CHECK.dueThrow("12: waits(" + p + ")", INDEX, () -> x.waits(p));
        }
    }

    private static void shares() {
        PilotTugs x = new PilotTugs();
        due("13: half", x.share(1, 2), 50);
        due("13: cut off", x.share(2, 3), 66);
        due("13: nothing", x.share(0, 1000000), 0);
        due("13: less than one", x.share(9999, 1000000), 0);
        due("13: one", x.share(10000, 1000000), 1);
        due("13: most", x.share(1000000, 1), 100000000);
        due("13: all", x.share(1000000, 1000000), 100);
        CHECK.dueThrow("13: of nothing", ArithmeticException.class, () -> x.share(1, 0));
        CHECK.dueThrow("13: nothing of nothing", ArithmeticException.class, () -> x.share(0, 0));
        int[][] wrong = {{-1, 1}, {1000001, 1}, {1, -1}, {1, 1000001}, {-1, 0}, {1000001, 0}, {LOW, 1}, {HIGH, 1}, {1, LOW}, {1, HIGH}};
        for (int[] w : wrong) {
            CHECK.dueThrow("13: share(" + w[0] + ", " + w[1] + ")", ARGUMENT, () -> x.share(w[0], w[1]));
        }
    }

    private static void counts() {
        PilotTugs x = new PilotTugs();
        x.person(1, 0, 1000, 0);
        x.person(1, 0, 1000, 0);
        x.person(1, 0, 1000, 0);
        x.tug(5);
        x.tug(5);
        x.job(1, 0, 0, 10, 0);
        x.rule(0, 4);
        x.rule(2, 4);
        due("14: no plan", x.count(3), 0);
        due("14: given without a plan", x.count(4), -1);
        due("14: barred without a plan", x.count(5), -1);
        x.assign();
        int[] want = {3, 2, 1, 1, 1, 5, -1, -1, -1, -1, 1, 0, 1, -1, -1};
        for (int what = 0; what < want.length; what++) {
            due("14: count(" + what + ")", x.count(what), want[what]);
        }
        for (int what : new int[] {-1, LOW, HIGH, LOW + 10, LOW + 9}) {
            due("14: count(" + what + ")", x.count(what), -1);
        }
    }

    private static PilotTugs planned() {
        PilotTugs x = new PilotTugs();
        x.person(1, 0, 1000, 0);
        x.tug(50);
        x.job(1, 20, 100, 200, 1);
        x.assign();
        due("plan: made", x.count(3), 1);
        return x;
    }

    private static void isVoid(String call, PilotTugs x) {
        due("void by " + call, x.count(3), 0);
        due("void by " + call + ", count(4)", x.count(4), -1);
        due("void by " + call + ", count(5)", x.count(5), -1);
        CHECK.dueThrow("void by " + call + ", of", STATE, () -> x.of(0, 0));
        CHECK.dueThrow("void by " + call + ", late", STATE, () -> x.late(0, 0));
        CHECK.dueThrow("void by " + call + ", day", STATE, () -> x.day(0, 0));
        CHECK.dueThrow("void by " + call + ", waits", STATE, () -> x.waits(0));
    }

    private static void planBecomesVoid() {
        PilotTugs x = planned();
        x.person(1, 0, 10, 0);
        isVoid("person", x);
        x = planned();
        x.tug(1);
        isVoid("tug", x);
        x = planned();
        x.job(1, 0, 0, 10, 0);
        isVoid("job", x);
        x = planned();
        x.travels(0, 1, 10);
        isVoid("travels", x);
        x = planned();
        x.rest(0);
        isVoid("rest", x);
        x = planned();
        x.rule(0, 0);
        isVoid("rule", x);
    }

    private static void refusedChangesNothing() {
        PilotTugs x = planned();
        Check.outcome(() -> x.person(6, 0, 10, 0));
        Check.outcome(() -> x.tug(0));
        Check.outcome(() -> x.job(1, 0, 10, 10, 0));
        Check.outcome(() -> x.late(0, -1));
        Check.outcome(() -> x.late(1, 0));
        Check.outcome(() -> x.of(0, 5));
        Check.outcome(() -> x.share(1, 0));
        x.travels(0, 0, 5);
        x.travels(0, 1, 301);
        x.rest(301);
        x.rule(0, 5);
        x.rule(1, 4);
        due("refused: the plan stays", x.count(3), 1);
        due("refused: person", x.of(0, 0), 0);
        due("refused: travel", x.of(0, 1), 10);
        due("refused: tugs", x.of(0, 2), 1);
        due("refused: waits", x.waits(0), 90);
        due("refused: people, tugs, jobs", x.count(0) + 10 * x.count(1) + 100 * x.count(2), 111);
        due("refused: assign again", x.assign(), 10);
        PilotTugs full = new PilotTugs();
        for (int i = 0; i < 7; i++) {
            Check.outcome(() -> full.person(1, 0, 10, 0));
            Check.outcome(() -> full.tug(1));
            Check.outcome(() -> full.job(1, 0, 0, 10, 0));
        }
        full.assign();
        CHECK.dueThrow("refused: fifth person", STATE, () -> full.person(1, 0, 10, 0));
        CHECK.dueThrow("refused: seventh tug", STATE, () -> full.tug(1));
        CHECK.dueThrow("refused: eighth job", STATE, () -> full.job(1, 0, 0, 10, 0));
        due("refused: the plan of the full one stays", full.count(4), 4);
    }

    private static void objectsAreApart() {
        PilotTugs a = planned();
        PilotTugs b = new PilotTugs();
        b.travels(0, 1, 200);
        b.rest(100);
        due("1: another object's people", b.count(0), 0);
        due("1: the first one's plan", a.count(3), 1);
        due("1: the first one's travel", a.assign(), 10);
    }
}
