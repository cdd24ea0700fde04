/** The sentences of promises 1 to 14 that name an edge, one test each. */
public final class EdgeTest {
    private static final Class<IllegalArgumentException> ARGUMENT = IllegalArgumentException.class;
    private static final Class<IllegalStateException> STATE = IllegalStateException.class;
    private static final Class<IndexOutOfBoundsException> INDEX = IndexOutOfBoundsException.class;
    private static final Class<ArithmeticException> ARITHMETIC = ArithmeticException.class;
    private static final int LOW = Integer.MIN_VALUE;
    private static final int HIGH = Integer.MAX_VALUE;
    /** 32 and 33 are as far as 0 and 1 to a shift. */
    private static final int[] FAR = {LOW, LOW + 1, -32, -2, -1, 8, 32, 33, HIGH - 1, HIGH};

    private static final Check CHECK = new Check();

    public static void main(String[] args) {
        newObjectIsEmpty();
        newObjectRefusesAsks();
        ruleNeedsSomebody();
        ruleIsUpToFour();
        assignIsNoneIfNoneIsGiven();
        assignAgain();
        ofNeedsAJob();
        ofNeedsAWhat();
        ofNeedsAPlan();
        ofWithoutAPerson();
        whyOneNobodyHasTheLicence();
        whyTwoNobodyMayAlone();
        whyThreeOtherwise();
        whyCountsBarredAsNobody();
        lateNeedsAJob();
        lateNeedsTimes();
        lateNeedsAPlan();
        lateLastsAsLong();
        lateCountsOthers();
        lateCountsNoneAsOne();
        lateCountsAllSeven();
        dayNeedsSomebody();
        dayNeedsAPlan();
        dayIsNoneWithout();
        waitsNeedsSomebody();
        waitsNeedsAPlan();
        waitsCountsRest();
        waitsIsNothingWithoutJobs();
        shareIsUpToAMillion();
        shareOfNothing();
        shareCutsOff();
        countOfEach();
        countOfPlan();
        countOfFailures();
        countOfAnother();
        usedFor512Calls();
        CHECK.end();
    }

    private static void due(String call, int got, int want) {
        CHECK.due(call, got, want);
    }

    private static void due(String call, boolean got, boolean want) {
        CHECK.due(call, got, want);
    }

    /** People with all licences and hours at home 0, and jobs one behind the other at place 0. */
    private static PilotTugs with(int people, int jobs) {
        PilotTugs x = new PilotTugs();
        for (int p = 0; p < people; p++) {
            x.person(5, 0, 2880, 0);
        }
        for (int j = 0; j < jobs; j++) {
            x.job(1, 0, 100 * j + 400, 100 * j + 450, 0);
        }
        return x;
    }

    private static PilotTugs planned(int people, int jobs) {
        PilotTugs x = with(people, jobs);
        x.assign();
        return x;
    }

    /** Promise 1: "No people, tugs, jobs." */
    private static void newObjectIsEmpty() {
        PilotTugs x = new PilotTugs();
        due("people", x.count(0), 0);
        due("tugs", x.count(1), 0);
        due("jobs", x.count(2), 0);
        due("plan", x.count(3), 0);
        due("given", x.count(4), -1);
        due("barred", x.count(5), -1);
        due("failures of nobody", x.count(10), -1);
        due("the first person", x.person(1, 0, 1, 0), 0);
        due("the first tug", x.tug(1), 0);
        due("the first job", x.job(1, 0, 0, 1, 0), 0);
    }

    /** Promise 1 with 7 and 9 to 12: there is nobody and nothing to ask of. */
    private static void newObjectRefusesAsks() {
        PilotTugs x = new PilotTugs();
        for (int round = 0; round < 2; round++) {
            due("rule of nobody", x.rule(0, 0), false);
            CHECK.dueThrow("of no job", INDEX, () -> x.of(0, 0));
            CHECK.dueThrow("late of no job", INDEX, () -> x.late(0, 0));
            CHECK.dueThrow("day of nobody", INDEX, () -> x.day(0, 0));
            CHECK.dueThrow("waits of nobody", INDEX, () -> x.waits(0));
            due("a plan of nothing", x.assign(), -1);
            due("it is one all the same", x.count(3), 1);
            due("given of nothing", x.count(4), 0);
            due("barred of nobody", x.count(5), 0);
        }
    }

    /** Promise 7: "false if there is nobody such" */
    private static void ruleNeedsSomebody() {
        for (int people = 0; people <= 4; people++) {
            PilotTugs x = with(people, 0);
            for (int p = -1; p <= 5; p++) {
                due(people + " people, rule(" + p + ", 1)", x.rule(p, 1), p >= 0 && p < people);
            }
            for (int p : FAR) {
                due("rule(" + p + ", 1)", x.rule(p, 1), false);
            }
        }
    }

    /** Promise 7: "A person's RULE (0 .. 4)", "or no such rule" */
    private static void ruleIsUpToFour() {
        PilotTugs x = with(1, 1);
        for (int does = -2; does <= 6; does++) {
            due("rule(0, " + does + ")", x.rule(0, does), does >= 0 && does <= 4);
        }
        for (int does : FAR) {
            due("rule(0, " + does + ")", x.rule(0, does), false);
        }
        x.assign();
        due("the last one that was taken holds", x.count(10), 1);
    }

    /** Promise 8: "NONE if no job is given to anybody (a plan it is all the same)" */
    private static void assignIsNoneIfNoneIsGiven() {
        int[][] none = {{0, 0}, {0, 1}, {0, 7}, {1, 0}, {4, 0}};
        for (int[] n : none) {
            PilotTugs x = with(n[0], n[1]);
            due(n[0] + " people, " + n[1] + " jobs", x.assign(), -1);
            due("it is a plan", x.count(3), 1);
            due("that gives none", x.count(4), 0);
        }
        PilotTugs x = new PilotTugs();
        x.person(1, 0, 100, 0);
        x.job(2, 0, 10, 20, 0);
        due("none may do it", x.assign(), -1);
        due("it is a plan", x.count(3), 1);
        x.job(1, 0, 10, 20, 0);
        due("one is given with no travel", x.assign(), 0);
        due("one is given", x.count(4), 1);
    }

    /** Promise 8: a plan that is made again is the same, and asks the rules again. */
    private static void assignAgain() {
        PilotTugs x = with(2, 3);
        x.rule(0, 4);
        due("made", x.assign(), 0);
        String before = Answers.of(x);
        due("made again", x.assign(), 0);
        due("asked again", x.count(10), 2);
        CHECK.dueText("all else", Answers.of(x).substring(before.indexOf('|')), before.substring(before.indexOf('|')));
    }

    /** Promise 9: "IndexOutOfBoundsException if there is no such job" */
    private static void ofNeedsAJob() {
        for (int jobs = 0; jobs <= 7; jobs++) {
            PilotTugs x = planned(1, jobs);
            for (int what = 0; what < 5; what++) {
                int w = what;
                if (jobs > 0) {
                    due("of(0, " + w + ")", x.of(0, w), 0);
                    due("of(" + (jobs - 1) + ", " + w + ")", x.of(jobs - 1, w), 0);
                }
                int n = jobs;
                CHECK.dueThrow(jobs + " jobs, of(-1, " + w + ")", INDEX, () -> x.of(-1, w));
                CHECK.dueThrow(jobs + " jobs, of(" + jobs + ", " + w + ")", INDEX, () -> x.of(n, w));
            }
            for (int job : FAR) {
                CHECK.dueThrow("of(" + job + ", 0)", INDEX, () -> x.of(job, 0));
            }
        }
    }

    /** Promise 9: "if there is no such job or what" */
    private static void ofNeedsAWhat() {
        PilotTugs x = planned(1, 7);
        for (int what : FAR) {
            CHECK.dueThrow("of(0, " + what + ")", INDEX, () -> x.of(0, what));
            CHECK.dueThrow("of(6, " + what + ")", INDEX, () -> x.of(6, what));
        }
        CHECK.dueThrow("of(0, 5)", INDEX, () -> x.of(0, 5));
        CHECK.dueThrow("of(6, 5)", INDEX, () -> x.of(6, 5));
        due("of(0, 4)", x.of(0, 4), 0);
        due("of(6, 4)", x.of(6, 4), 0);
    }

    /** Promise 9: "IllegalStateException without a plan" */
    private static void ofNeedsAPlan() {
        PilotTugs x = with(1, 7);
        for (int job = 0; job < 7; job++) {
            for (int what = 0; what < 5; what++) {
                int j = job;
                int w = what;
                CHECK.dueThrow("of(" + j + ", " + w + ") without a plan", STATE, () -> x.of(j, w));
            }
        }
    }

    /** Promise 9: "(NONE without)", "(NONE without a person)" */
    private static void ofWithoutAPerson() {
        PilotTugs x = with(0, 1);
        x.tug(100);
        x.job(1, 100, 0, 10, 4);
        x.assign();
        for (int job = 0; job < 2; job++) {
            due("person", x.of(job, 0), -1);
            due("travel", x.of(job, 1), -1);
            due("tugs", x.of(job, 2), 0);
            due("WITHOUT", x.of(job, 3), 0);
            due("why", x.of(job, 4), 1);
        }
        x.person(1, 0, 2880, 0);
        x.assign();
        due("somebody at place 0", x.of(0, 1), 0);
        due("none in time for place 4", x.of(1, 1), -1);
    }

    private static int whyOf(int licence, int from, int to) {
        PilotTugs x = new PilotTugs();
        x.person(3, 100, 500, 0);
        x.job(licence, 0, from, to, 1);
        x.assign();
        return x.of(0, 4);
    }

    /** Promise 9: "1 nobody has the licence" */
    private static void whyOneNobodyHasTheLicence() {
        due("one more than they have", whyOf(4, 200, 300), 1);
        due("just what they have", whyOf(3, 200, 300), 0);
        due("nor the hours", whyOf(4, 0, 10), 1);
        PilotTugs x = with(0, 1);
        x.assign();
        due("there is nobody at all", x.of(0, 4), 1);
        PilotTugs y = new PilotTugs();
        for (int p = 1; p <= 4; p++) {
            y.person(p, 0, 2880, 0);
        }
        y.job(5, 0, 100, 200, 0);
        y.assign();
        due("four people without it", y.of(0, 4), 1);
    }

    /** Promise 9: "2 nobody may do it alone" */
    private static void whyTwoNobodyMayAlone() {
        due("just there in time", whyOf(3, 110, 200), 0);
        due("a minute too soon", whyOf(3, 109, 200), 2);
        due("ends with the hours", whyOf(3, 200, 500), 0);
        due("a minute behind the hours", whyOf(3, 200, 501), 2);
        PilotTugs x = new PilotTugs();
        x.person(1, 0, 2880, 0);
        x.rule(0, 1);
        x.job(1, 0, 359, 400, 0);
        x.assign();
        due("the rule leaves it not", x.of(0, 4), 2);
        PilotTugs y = new PilotTugs();
        y.person(5, 0, 100, 0);
        y.person(1, 0, 2880, 0);
        y.job(2, 0, 50, 101, 0);
        y.assign();
        due("one has the licence, another one the hours", y.of(0, 4), 2);
    }

    /** Promise 9: "3 otherwise" */
    private static void whyThreeOtherwise() {
        PilotTugs x = with(1, 1);
        x.job(1, 0, 449, 500, 0);
        x.assign();
        due("it has one", x.of(0, 4), 0);
        due("it may be done alone", x.of(1, 4), 3);
        x.late(1, 450);
        due("it touches", x.of(1, 4), 0);
        PilotTugs y = with(1, 3);
        y.rule(0, 2);
        y.assign();
        due("a third one by rule 2", y.of(2, 4), 3);
        PilotTugs z = with(4, 0);
        for (int j = 0; j < 7; j++) {
            z.job(5, 0, 100, 200, 0);
        }
        z.assign();
        for (int j = 0; j < 7; j++) {
            due("seven at once, why of " + j, z.of(j, 4), j < 4 ? 0 : 3);
        }
    }

    /** Promise 9: "(barred people count as nobody)" */
    private static void whyCountsBarredAsNobody() {
        PilotTugs x = new PilotTugs();
        x.person(5, 0, 2880, 0);
        x.person(4, 0, 100, 0);
        x.job(4, 0, 200, 300, 0);
        x.job(5, 0, 400, 500, 0);
        x.job(4, 0, 0, 50, 0);
        x.job(4, 0, 0, 50, 0);
        x.rule(0, 4);
        x.assign();
        due("who may is barred, the other has the licence", x.of(0, 4), 2);
        due("who has the licence is barred", x.of(1, 4), 1);
        due("the other has it", x.of(2, 4), 0);
        due("the other might have it", x.of(3, 4), 3);
        x.rule(1, 4);
        x.assign();
        for (int j = 0; j < 4; j++) {
            due("all are barred, why of " + j, x.of(j, 4), 1);
        }
    }

    /** Promise 10: "IndexOutOfBoundsException if there is no such job" */
    private static void lateNeedsAJob() {
        for (int jobs = 0; jobs <= 7; jobs++) {
            PilotTugs x = planned(1, jobs);
            int n = jobs;
            if (jobs > 0) {
                due("late(0, 0)", x.late(0, 0), 0);
                due("late of the last", x.late(n - 1, 2000), 0);
            }
            CHECK.dueThrow(jobs + " jobs, late(-1, 0)", INDEX, () -> x.late(-1, 0));
            CHECK.dueThrow(jobs + " jobs, late(" + jobs + ", 0)", INDEX, () -> x.late(n, 0));
            for (int job : FAR) {
                CHECK.dueThrow("late(" + job + ", 0)", INDEX, () -> x.late(job, 0));
            }
        }
    }

    /** Promise 10: "IllegalArgumentException if the times can't be" */
    private static void lateNeedsTimes() {
        for (int lasts : new int[] {1, 2, 599, 600}) {
            PilotTugs x = new PilotTugs();
            x.person(1, 0, 2880, 0);
            x.job(1, 0, 1000, 1000 + lasts, 0);
            x.assign();
            int last = 2880 - lasts;
            due("late(0, 0)", x.late(0, 0), 0);
            due("it begins at 0", x.waits(0), 0);
            due("late(0, " + last + ")", x.late(0, last), 0);
            due("it begins at " + last, x.waits(0), last);
            for (int from : new int[] {-1, -lasts, last + 1, 2880, 2881, LOW, LOW + lasts, HIGH, HIGH - lasts, HIGH - lasts + 1}) {
                CHECK.dueThrow("lasts " + lasts + ", late(0, " + from + ")", ARGUMENT, () -> x.late(0, from));
            }
            due("it begins still at " + last, x.waits(0), last);
            due("there is still a plan", x.count(3), 1);
        }
    }

    /** Promise 10: "IllegalStateException without a plan" */
    private static void lateNeedsAPlan() {
        PilotTugs x = with(1, 2);
        CHECK.dueThrow("no plan was made", STATE, () -> x.late(0, 100));
        x.assign();
        due("the job was not moved", x.waits(0), 400 + 50);
        x.tug(1);
        CHECK.dueThrow("the plan is void", STATE, () -> x.late(0, 100));
        CHECK.dueThrow("late made none", STATE, () -> x.waits(0));
        x.assign();
        due("the job was not moved", x.waits(0), 400 + 50);
        x.late(0, 100);
        due("the job is moved", x.waits(0), 100 + 350);
    }

    /** Promise 10: "A job begins at another time, and lasts as long" */
    private static void lateLastsAsLong() {
        PilotTugs x = with(1, 1);
        x.job(1, 0, 1000, 1010, 0);
        x.assign();
        due("just behind it", x.late(1, 450), 0);
        due("no minute between", x.waits(0), 400);
        due("ahead of it, up to it", x.late(1, 390), 0);
        due("no minute between", x.waits(0), 390);
        due("the same time", x.late(1, 390), 0);
        due("a minute more", x.late(1, 391), 1);
        due("they overlap", x.of(1, 0), -1);
        due("back again", x.late(1, 1000), 1);
        due("as it was", x.waits(0), 400 + 550);
        due("the day's order", x.day(0, 1), 1);
    }

    /** Promise 10: "how many jobs have another person by the plan that is made then" */
    private static void lateCountsOthers() {
        PilotTugs x = with(2, 0);
        x.job(1, 0, 100, 200, 0);
        x.job(1, 0, 300, 400, 0);
        x.job(1, 0, 300, 400, 0);
        x.assign();
        due("0, 0 and 1", x.of(0, 0) + 10 * x.of(1, 0) + 100 * x.of(2, 0), 100);
        due("none has another", x.late(0, 200), 0);
        due("one overlaps both: it and the last one have others", x.late(1, 250), 2);
        due("0, 1 and 0", x.of(0, 0) + 10 * x.of(1, 0) + 100 * x.of(2, 0), 10);
    }

    /** Promise 10: "(none counts as one)" */
    private static void lateCountsNoneAsOne() {
        PilotTugs x = with(1, 2);
        x.assign();
        due("both have the person", x.count(4), 2);
        due("from somebody to none", x.late(1, 400), 1);
        due("none", x.of(1, 0), -1);
        due("from none to none", x.late(1, 401), 0);
        due("from none to somebody", x.late(1, 450), 1);
        PilotTugs nobody = planned(0, 7);
        due("from nobody to nobody", nobody.late(3, 0), 0);
    }

    /** All seven go to the other one, as only they are there for the one that moved. */
    private static void lateCountsAllSeven() {
        PilotTugs x = new PilotTugs();
        x.person(1, 0, 1000, 0);
        x.person(1, 0, 2880, 1);
        for (int j = 0; j < 7; j++) {
            x.job(1, 0, 100 * j + 100, 100 * j + 150, 2);
        }
        due("all by the less person", x.assign(), 10);
        due("all seven have another", x.late(3, 2000), 7);
        for (int i = 0; i < 7; i++) {
            due("the other's day, " + i, x.day(1, i), i < 3 ? i : i < 6 ? i + 1 : 3);
        }
        due("all seven have another again", x.late(3, 400), 7);
    }

    /** Promise 11: "IndexOutOfBoundsException if there is nobody such" */
    private static void dayNeedsSomebody() {
        for (int people = 0; people <= 4; people++) {
            PilotTugs x = planned(people, 1);
            int n = people;
            if (people > 0) {
                due("day(0, 0)", x.day(0, 0), 0);
                due("day(last, 0)", x.day(n - 1, 0), n == 1 ? 0 : -1);
            }
            CHECK.dueThrow("day(-1, 0)", INDEX, () -> x.day(-1, 0));
            CHECK.dueThrow("day(" + people + ", 0)", INDEX, () -> x.day(n, 0));
            for (int p : FAR) {
                CHECK.dueThrow("day(" + p + ", 0)", INDEX, () -> x.day(p, 0));
            }
        }
    }

    /** Promise 11: "IllegalStateException without a plan" */
    private static void dayNeedsAPlan() {
        PilotTugs x = with(4, 7);
        for (int p = 0; p < 4; p++) {
            for (int i = -1; i <= 7; i++) {
                int person = p;
                int at = i;
                CHECK.dueThrow("day(" + p + ", " + i + ") without a plan", STATE, () -> x.day(person, at));
            }
        }
    }

    /** Promise 11: "The i-th job of a person by the plan, by its beginnings; NONE without." */
    private static void dayIsNoneWithout() {
        for (int jobs = 0; jobs <= 7; jobs++) {
            PilotTugs x = planned(2, jobs);
            for (int i = -1; i <= 8; i++) {
                due(jobs + " jobs, day(0, " + i + ")", x.day(0, i), i >= 0 && i < jobs ? i : -1);
                due(jobs + " jobs, day(1, " + i + ")", x.day(1, i), -1);
            }
            for (int i : FAR) {
                due(jobs + " jobs, day(0, " + i + ")", x.day(0, i), -1);
            }
        }
    }

    /** Promise 12: "IndexOutOfBoundsException if there is nobody such" */
    private static void waitsNeedsSomebody() {
        for (int people = 0; people <= 4; people++) {
            PilotTugs x = planned(people, 1);
            int n = people;
            if (people > 0) {
                due("waits(0)", x.waits(0), 400);
                due("waits(last)", x.waits(n - 1), n == 1 ? 400 : 0);
            }
            CHECK.dueThrow("waits(-1)", INDEX, () -> x.waits(-1));
            CHECK.dueThrow("waits(" + people + ")", INDEX, () -> x.waits(n));
            for (int p : FAR) {
                CHECK.dueThrow("waits(" + p + ")", INDEX, () -> x.waits(p));
            }
        }
    }

    /** Promise 12: "IllegalStateException without a plan" */
    private static void waitsNeedsAPlan() {
        PilotTugs x = with(4, 7);
        for (int p = 0; p < 4; p++) {
            int person = p;
            CHECK.dueThrow("waits(" + p + ") without a plan", STATE, () -> x.waits(person));
        }
    }

    /** Promise 12: "less TRAVEL, up to the next one", "REST counts as waiting" */
    private static void waitsCountsRest() {
        PilotTugs x = new PilotTugs();
        x.person(1, 100, 2880, 0);
        x.travels(0, 1, 30);
        x.travels(1, 2, 40);
        x.rest(25);
        x.job(1, 0, 130, 200, 1);
        x.job(1, 0, 265, 300, 2);
        x.assign();
        due("just in time: the rest alone", x.waits(0), 25);
        x.late(1, 266);
        due("a minute more", x.waits(0), 26);
        x.late(0, 131);
        due("a minute from the one side to the other", x.waits(0), 1 + 25);
        x.late(1, 2845);
        due("up to the end, what is behind the last counts not", x.waits(0), 1 + 2845 - 201 - 40);
    }

    /** Promise 12: "0 without jobs" */
    private static void waitsIsNothingWithoutJobs() {
        PilotTugs x = planned(4, 0);
        for (int p = 0; p < 4; p++) {
            due("no jobs, waits(" + p + ")", x.waits(p), 0);
        }
        PilotTugs y = new PilotTugs();
        y.person(1, 1000, 2880, 0);
        y.person(1, 0, 10, 0);
        y.job(1, 0, 1000, 1010, 0);
        y.assign();
        due("begins with the hours", y.waits(0), 0);
        due("the other one has none", y.waits(1), 0);
    }

    /** Promise 13: "IllegalArgumentException if part or all are not 0 .. 1000000" */
    private static void shareIsUpToAMillion() {
        PilotTugs x = new PilotTugs();
        due("share(0, 1)", x.share(0, 1), 0);
        due("share(1, 1)", x.share(1, 1), 100);
        due("share(0, 1000000)", x.share(0, 1000000), 0);
        due("share(1000000, 1)", x.share(1000000, 1), 100000000);
        due("share(999999, 1)", x.share(999999, 1), 99999900);
        due("share(1000000, 1000000)", x.share(1000000, 1000000), 100);
        due("share(1000000, 999999)", x.share(1000000, 999999), 100);
        due("share(999999, 1000000)", x.share(999999, 1000000), 99);
        for (int wrong : new int[] {LOW, LOW + 1, -1000000, -1, 1000001, 42949673, HIGH - 1, HIGH}) {
            for (int right : new int[] {0, 1, 1000000}) {
                CHECK.dueThrow("share(" + wrong + ", " + right + ")", ARGUMENT, () -> x.share(wrong, right));
                CHECK.dueThrow("share(" + right + ", " + wrong + ")", ARGUMENT, () -> x.share(right, wrong));
            }
            CHECK.dueThrow("share(" + wrong + ", " + wrong + ")", ARGUMENT, () -> x.share(wrong, wrong));
        }
    }

    /** Promise 13: "ArithmeticException if all is 0" */
    private static void shareOfNothing() {
        PilotTugs x = new PilotTugs();
        for (int part : new int[] {0, 1, 999999, 1000000}) {
            CHECK.dueThrow("share(" + part + ", 0)", ARITHMETIC, () -> x.share(part, 0));
        }
    }

    /** Promise 13: "100 * part / all" */
    private static void shareCutsOff() {
        PilotTugs x = new PilotTugs();
        due("share(1, 100)", x.share(1, 100), 1);
        due("share(1, 101)", x.share(1, 101), 0);
        due("share(199, 200)", x.share(199, 200), 99);
        due("share(201, 200)", x.share(201, 200), 100);
        due("share(2, 3)", x.share(2, 3), 66);
        due("share(7, 2)", x.share(7, 2), 350);
    }

    /** Promise 14: "what 0: people, 1: tugs, 2: jobs" */
    private static void countOfEach() {
        PilotTugs x = new PilotTugs();
        for (int n = 1; n <= 8; n++) {
            Check.outcome(() -> x.person(1, 0, 1, 0));
            Check.outcome(() -> x.tug(1));
            Check.outcome(() -> x.job(1, 0, 0, 1, 0));
            due("people of " + n, x.count(0), Math.min(n, 4));
            due("tugs of " + n, x.count(1), Math.min(n, 6));
            due("jobs of " + n, x.count(2), Math.min(n, 7));
        }
    }

    /** Promise 14: "3: 1 if there is a plan, else 0, 4: .. NONE without a plan, 5: .. NONE without" */
    private static void countOfPlan() {
        PilotTugs x = with(4, 7);
        for (int barred = 0; barred < 16; barred++) {
            for (int p = 0; p < 4; p++) {
                x.rule(p, ((barred >> p) & 1) == 1 ? 4 : 0);
            }
            due("no plan", x.count(3), 0);
            due("given without a plan", x.count(4), -1);
            due("barred without a plan", x.count(5), -1);
            x.assign();
            due("a plan", x.count(3), 1);
            due("given with barred " + barred, x.count(4), barred == 15 ? 0 : 7);
            due("barred " + barred, x.count(5), barred);
        }
    }

    /** Promise 14: "from 10 on FAILURES of person what - 10" */
    private static void countOfFailures() {
        for (int people = 0; people <= 4; people++) {
            PilotTugs x = with(people, 1);
            for (int p = 0; p < people; p++) {
                x.rule(p, p == 1 ? 0 : 4);
            }
            x.assign();
            x.assign();
            for (int p = -1; p <= 6; p++) {
                int want = p < 0 || p >= people ? -1 : p == 1 ? 0 : 2;
                due(people + " people, count(" + (10 + p) + ")", x.count(10 + p), want);
            }
            x.tug(1);
            due("they stay without a plan", x.count(10), people == 0 ? -1 : 2);
        }
    }

    /** Promise 14: "NONE for another what or person" */
    private static void countOfAnother() {
        PilotTugs x = planned(4, 7);
        for (int what : new int[] {LOW, LOW + 9, LOW + 10, -10, -1, 6, 7, 8, 9, 14, 15, 42, 74, HIGH - 10, HIGH}) {
            due("count(" + what + ")", x.count(what), -1);
        }
        due("count(13)", x.count(13), 0);
        due("count(5)", x.count(5), 0);
        due("count(0)", x.count(0), 4);
    }

    /** "An object is used for at most 512 calls": the last of them is answered too. */
    private static void usedFor512Calls() {
        PilotTugs x = new PilotTugs();
        x.person(1, 0, 2880, 0);
        x.rule(0, 4);
        x.job(1, 0, 100, 200, 1);
        for (int call = 4; call <= 510; call++) {
            due("assign() as call " + call, x.assign(), -1);
        }
        due("failures as call 511", x.count(10), 507);
        due("late as call 512", x.late(0, 0), 0);
    }
}
