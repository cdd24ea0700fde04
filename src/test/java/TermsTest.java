/**
 * The sentences of the document's "Terms", one test each: the last value that is allowed and the
 * first one that is not, on both sides, the first values, and what is ahead of what in a plan.
 */
public final class TermsTest {
    private static final Class<IllegalStateException> STATE = IllegalStateException.class;
    private static final int LOW = Integer.MIN_VALUE;
    private static final int HIGH = Integer.MAX_VALUE;

    private static final Check CHECK = new Check();

    public static void main(String[] args) {
        placesAreFive();
        travelIsUpTo300();
        travelIsTenAtFirst();
        travelIsInBothDirections();
        timesAreUpTo2880();
        peopleAreFourAtMost();
        licencesAreOneToFive();
        hoursGoUpToALaterTime();
        jobsAreSevenAtMost();
        pullOfJobsIsUpTo300();
        jobsLast600AtMost();
        restIsUpTo300();
        restIsNoneAtFirst();
        licenceIsAtLeastTheJobs();
        ofEqualBeginningsNotAll();
        firstBeginsNotAheadOfHoursAndTravel();
        nextBeginsNotAheadOfEndRestAndTravel();
        restIsNotForTheFirst();
        lastEndsWithinHours();
        travelIsNotHomeAgain();
        ruleIsNoneAtFirst();
        ruleOneIsAheadOf360();
        ruleTwoIsTwoJobs();
        ruleThreeFailsForLicenceFive();
        ruleFourFailsAlways();
        firstFailureIsOne();
        failureBarsFromThatPlan();
        planGivesMost();
        planTravelsLeast();
        planIsFirst();
        planOfFarTravel();
        CHECK.end();
    }

    private static void due(String call, int got, int want) {
        CHECK.due(call, got, want);
    }

    private static void due(String call, boolean got, boolean want) {
        CHECK.due(call, got, want);
    }

    private static boolean isOneOf(int number, int least, int most) {
        return number >= least && number <= most;
    }

    private static void duePerson(int licence, int from, int to, int home, boolean may) {
        String got = Check.outcome(() -> new PilotTugs().person(licence, from, to, home));
        CHECK.dueText("person(" + licence + ", " + from + ", " + to + ", " + home + ")", got,
                may ? "0" : "throws.IllegalArgumentException");
    }

    private static void dueJob(int licence, int pull, int from, int to, int place, boolean may) {
        String got = Check.outcome(() -> new PilotTugs().job(licence, pull, from, to, place));
        CHECK.dueText("job(" + licence + ", " + pull + ", " + from + ", " + to + ", " + place + ")", got,
                may ? "0" : "throws.IllegalArgumentException");
    }

    /** "PLACES 0 .. 4" */
    private static void placesAreFive() {
        for (int place : new int[] {LOW, -2, -1, 0, 1, 2, 3, 4, 5, 6, HIGH}) {
            duePerson(1, 0, 1, place, isOneOf(place, 0, 4));
            dueJob(1, 0, 0, 1, place, isOneOf(place, 0, 4));
        }
        for (int a = -6; a <= 10; a++) {
            for (int b = -6; b <= 10; b++) {
                boolean may = isOneOf(a, 0, 4) && isOneOf(b, 0, 4) && a != b;
                due("travels(" + a + ", " + b + ", 20)", new PilotTugs().travels(a, b, 20), may);
            }
        }
    }

    /** The travel that the plan has from one place to another one. */
    private static int travelOf(PilotTugs x, int home, int place) {
        x.person(1, 0, 2880, home);
        x.job(1, 0, 1000, 1001, place);
        return x.assign();
    }

    /** "TRAVEL from one to another one takes minutes (0 .. 300" */
    private static void travelIsUpTo300() {
        for (int minutes : new int[] {LOW, -301, -1, 0, 1, 299, 300, 301, 302, HIGH}) {
            PilotTugs x = new PilotTugs();
            x.travels(2, 3, 123);
            boolean may = isOneOf(minutes, 0, 300);
            due("travels(2, 3, " + minutes + ")", x.travels(2, 3, minutes), may);
            due("travel behind travels(2, 3, " + minutes + ")", travelOf(x, 2, 3), may ? minutes : 123);
        }
    }

    /** "10 at first; 0 to itself" */
    private static void travelIsTenAtFirst() {
        for (int a = 0; a < 5; a++) {
            for (int b = 0; b < 5; b++) {
                due("first travel from " + a + " to " + b, travelOf(new PilotTugs(), a, b), a == b ? 0 : 10);
            }
        }
    }

    /** "in both directions": for each pair, and for no other one. */
    private static void travelIsInBothDirections() {
        for (int told = 0; told < 25; told++) {
            int a = told / 5;
            int b = told % 5;
            for (int asked = 0; asked < 25 && a != b; asked++) {
                int c = asked / 5;
                int d = asked % 5;
                PilotTugs x = new PilotTugs();
                x.travels(a, b, 77);
                boolean same = (a == c && b == d) || (a == d && b == c);
                due("travels(" + a + ", " + b + ", 77), from " + c + " to " + d, travelOf(x, c, d),
                        same ? 77 : c == d ? 0 : 10);
            }
        }
        PilotTugs x = new PilotTugs();
        x.travels(0, 1, 50);
        x.travels(1, 0, 60);
        due("what is told last holds", travelOf(x, 0, 1), 60);
    }

    /** "TIMES are minutes 0 .. 2880." */
    private static void timesAreUpTo2880() {
        int[][] may = {{0, 1}, {0, 600}, {1, 2}, {2279, 2879}, {2280, 2880}, {2878, 2879}, {2879, 2880}};
        for (int[] t : may) {
            duePerson(1, t[0], t[1], 0, true);
            dueJob(1, 0, t[0], t[1], 0, true);
        }
        int[][] mayNot = {
            {-1, 0}, {-1, 1}, {-600, 0}, {2281, 2881}, {2879, 2881}, {2880, 2881}, {2881, 2882}, {2880, 2880},
            {LOW, LOW + 1}, {LOW, 0}, {HIGH - 1, HIGH}, {0, HIGH}, {HIGH, LOW}, {LOW, HIGH}, {2880, LOW}, {HIGH, HIGH},
        };
        for (int[] t : mayNot) {
            duePerson(1, t[0], t[1], 0, false);
            dueJob(1, 0, t[0], t[1], 0, false);
        }
        duePerson(1, 0, 2880, 0, true);
        duePerson(1, 0, 2881, 0, false);
        duePerson(1, -1, 2880, 0, false);
    }

    /** "PEOPLE 0 .. (4 at most)" */
    private static void peopleAreFourAtMost() {
        PilotTugs x = new PilotTugs();
        for (int p = 0; p < 4; p++) {
            due("person " + p, x.person(1, 0, 1, 0), p);
        }
        CHECK.dueThrow("a fifth person", STATE, () -> x.person(1, 0, 1, 0));
        CHECK.dueThrow("a fifth person again", STATE, () -> x.person(1, 0, 1, 0));
        due("people", x.count(0), 4);
    }

    /** "have a LICENCE (1 .. 5)", "need a LICENCE (1 .. 5)" */
    private static void licencesAreOneToFive() {
        for (int licence : new int[] {LOW, -5, -1, 0, 1, 2, 3, 4, 5, 6, 7, HIGH}) {
            duePerson(licence, 0, 1, 0, isOneOf(licence, 1, 5));
            dueJob(licence, 0, 0, 1, 0, isOneOf(licence, 1, 5));
        }
    }

    /** "HOURS from a time up to a later one" */
    private static void hoursGoUpToALaterTime() {
        for (int from : new int[] {0, 1, 1440, 2878}) {
            duePerson(1, from, from + 2, 0, true);
            duePerson(1, from, from + 1, 0, true);
            duePerson(1, from, from, 0, false);
            duePerson(1, from + 1, from, 0, false);
        }
    }

    /** "JOBS 0 .. (7 at most)" */
    private static void jobsAreSevenAtMost() {
        PilotTugs x = new PilotTugs();
        for (int j = 0; j < 7; j++) {
            due("job " + j, x.job(1, 0, 0, 1, 0), j);
        }
        CHECK.dueThrow("an eighth job", STATE, () -> x.job(1, 0, 0, 1, 0));
        CHECK.dueThrow("an eighth job again", STATE, () -> x.job(1, 0, 0, 1, 0));
        due("jobs", x.count(2), 7);
    }

    /** "PULL (0 .. 300)" */
    private static void pullOfJobsIsUpTo300() {
        for (int pull : new int[] {LOW, -300, -1, 0, 1, 299, 300, 301, HIGH}) {
            dueJob(1, pull, 0, 1, 0, isOneOf(pull, 0, 300));
        }
    }

    /** "last from a time up to a later one (600 at most behind it)" */
    private static void jobsLast600AtMost() {
        for (int from : new int[] {0, 1, 1000, 2279, 2280}) {
            for (int lasts : new int[] {-600, -1, 0, 1, 2, 599, 600, 601, 602}) {
                dueJob(1, 0, from, from + lasts, 0, isOneOf(lasts, 1, 600) && from + lasts <= 2880);
            }
        }
        dueJob(1, 0, 0, 2880, 0, false);
    }

    /** "REST is so many minutes between jobs (0 .. 300" */
    private static void restIsUpTo300() {
        for (int minutes : new int[] {LOW, -300, -1, 0, 1, 299, 300, 301, HIGH}) {
            PilotTugs x = new PilotTugs();
            x.rest(100);
            boolean may = isOneOf(minutes, 0, 300);
            due("rest(" + minutes + ")", x.rest(minutes), may);
            int rest = may ? minutes : 100;
            due("rested " + rest, givenOfTwo(x, 0, 50 + rest), 2);
            due("rested less than " + rest, x.late(1, 50 + rest - 1), 1);
        }
    }

    /** Two jobs at home up to 50 and from another time on, one person: how many are given. */
    private static int givenOfTwo(PilotTugs x, int place, int from) {
        x.person(1, 0, 2880, 0);
        x.job(1, 0, 0, 50, 0);
        x.job(1, 0, from, from + 10, place);
        x.assign();
        return x.count(4);
    }

    /** "0 at first" */
    private static void restIsNoneAtFirst() {
        due("jobs that touch at one place", givenOfTwo(new PilotTugs(), 0, 50), 2);
        due("jobs that overlap by a minute", givenOfTwo(new PilotTugs(), 0, 49), 1);
    }

    /** "for all of them the licence is at least that of the job" */
    private static void licenceIsAtLeastTheJobs() {
        for (int has = 1; has <= 5; has++) {
            for (int needs = 1; needs <= 5; needs++) {
                PilotTugs x = new PilotTugs();
                x.person(has, 0, 100, 0);
                x.job(needs, 0, 0, 10, 0);
                due("licence " + has + " for " + needs, x.assign(), has >= needs ? 0 : -1);
            }
        }
        PilotTugs x = new PilotTugs();
        x.person(3, 0, 100, 0);
        x.job(3, 0, 0, 10, 0);
        x.job(4, 0, 20, 30, 0);
        x.job(2, 0, 40, 50, 0);
        x.assign();
        due("the one beyond the licence is left", x.count(4), 2);
        due("the one beyond the licence", x.of(1, 0), -1);
    }

    /** "in the order of their beginnings (of equal ones they can't be all)" */
    private static void ofEqualBeginningsNotAll() {
        for (int people = 0; people <= 4; people++) {
            PilotTugs x = new PilotTugs();
            for (int p = 0; p < people; p++) {
                x.person(1, 0, 2880, 0);
            }
            x.job(1, 0, 100, 101, 0);
            x.job(1, 0, 100, 700, 0);
            x.job(1, 0, 100, 102, 0);
            x.assign();
            due("three at once of " + people + " people", x.count(4), Math.min(3, people));
        }
        PilotTugs x = new PilotTugs();
        x.person(1, 0, 2880, 0);
        for (int j = 6; j >= 0; j--) {
            x.job(1, 0, 100 * j, 100 * j + 100, 0);
        }
        x.assign();
        due("seven, told from the last to the first", x.count(4), 7);
        for (int i = 0; i < 7; i++) {
            due("the day's job " + i, x.day(0, i), 6 - i);
        }
    }

    /** "the first begins not ahead of the HOURS' beginning and the TRAVEL from HOME" */
    private static void firstBeginsNotAheadOfHoursAndTravel() {
        for (int hours : new int[] {0, 1, 400}) {
            for (int travel : new int[] {0, 1, 300}) {
                for (int ahead : new int[] {0, 1}) {
                    if (hours + travel - ahead < 0) {
                        continue;
                    }
                    PilotTugs x = new PilotTugs();
                    x.person(1, hours, 2880, 4);
                    x.travels(4, 0, travel);
                    x.job(1, 0, hours + travel - ahead, hours + travel + 5, 0);
                    x.assign();
                    due("hours " + hours + ", travel " + travel + ", ahead " + ahead, x.count(4), 1 - ahead);
                }
            }
        }
        PilotTugs x = new PilotTugs();
        x.person(1, 100, 2880, 3);
        x.job(1, 0, 100, 110, 3);
        due("at home as the hours begin", x.assign(), 0);
        x.late(0, 99);
        due("at home ahead of the hours", x.count(4), 0);
    }

    /** "each other one not ahead of the end of that before, REST and the TRAVEL from its place" */
    private static void nextBeginsNotAheadOfEndRestAndTravel() {
        for (int rest : new int[] {0, 1, 300}) {
            for (int travel : new int[] {0, 1, 300}) {
                PilotTugs x = new PilotTugs();
                x.rest(rest);
                x.travels(0, 1, travel);
                String name = "rest " + rest + ", travel " + travel;
                due(name, givenOfTwo(x, 1, 50 + rest + travel), 2);
                x.late(1, 50 + rest + travel - 1);
                due(name + ", a minute ahead", x.count(4), 1);
            }
        }
        PilotTugs x = new PilotTugs();
        x.person(1, 0, 2880, 0);
        x.rest(20);
        x.travels(0, 1, 5);
        x.travels(1, 2, 30);
        x.travels(0, 2, 300);
        x.job(1, 0, 155, 160, 2);
        x.job(1, 0, 5, 50, 1);
        x.job(1, 0, 100, 105, 2);
        due("of three each has the one before", x.assign(), 35);
        due("all three", x.count(4), 3);
        x.late(2, 99);
        due("the second a minute ahead", x.count(4), 2);
        x.late(2, 130);
        due("the third just behind it", x.count(4), 3);
        x.late(2, 131);
        due("the third a minute ahead", x.count(4), 2);
    }

    /** "REST is so many minutes between jobs": not ahead of the first, nor behind the last. */
    private static void restIsNotForTheFirst() {
        PilotTugs x = new PilotTugs();
        x.person(1, 0, 100, 0);
        x.rest(300);
        x.job(1, 0, 0, 100, 0);
        due("a job of all the hours", x.assign(), 0);
        due("it is given", x.count(4), 1);
    }

    /** "the last ends within the HOURS" */
    private static void lastEndsWithinHours() {
        for (int end : new int[] {600, 2879}) {
            for (int behind : new int[] {-1, 0, 1}) {
                PilotTugs x = new PilotTugs();
                x.person(1, 0, end, 0);
                x.job(1, 0, end - 100, end + behind, 0);
                x.job(1, 0, 0, 100, 0);
                x.assign();
                due("hours up to " + end + ", behind " + behind, x.count(4), behind > 0 ? 1 : 2);
            }
        }
        PilotTugs x = new PilotTugs();
        x.person(1, 2000, 2880, 0);
        x.job(1, 0, 2280, 2880, 0);
        due("up to the last time", x.assign(), 0);
    }

    /** "THE TRAVEL of it is that from HOME to the first place, and from place to place" */
    private static void travelIsNotHomeAgain() {
        PilotTugs x = new PilotTugs();
        x.person(1, 0, 2880, 0);
        x.travels(0, 1, 11);
        x.travels(1, 2, 22);
        x.travels(2, 0, 99);
        x.job(1, 0, 1000, 1010, 2);
        x.job(1, 0, 500, 510, 1);
        x.job(1, 0, 1010, 1020, 2);
        due("home, 1, 2, and stays there", x.assign(), 33);
        due("to the first", x.of(1, 1), 11);
        due("to the second", x.of(0, 1), 22);
        due("to the third at the same place", x.of(2, 1), 0);
    }

    private static PilotTugs onePerson(int rule) {
        PilotTugs x = new PilotTugs();
        x.person(5, 0, 2880, 0);
        if (rule >= 0) {
            x.rule(0, rule);
        }
        return x;
    }

    /** "RULES of people (one each; 0 at first): 0 none" */
    private static void ruleIsNoneAtFirst() {
        for (int rule = -1; rule <= 0; rule++) {
            PilotTugs x = onePerson(rule);
            for (int j = 0; j < 7; j++) {
                x.job(5, 0, j, j + 1, 0);
            }
            due("rule " + rule, x.assign(), 0);
            due("rule " + rule + " gives all", x.count(4), 7);
            due("rule " + rule + " bars nobody", x.count(5), 0);
            due("rule " + rule + " fails not", x.count(10), 0);
        }
        PilotTugs x = onePerson(4);
        x.rule(0, 1);
        x.job(1, 0, 100, 101, 0);
        due("one rule each: the last one told", x.assign(), -1);
        due("it fails no more", x.count(10), 0);
        x.person(5, 0, 2880, 1);
        due("each has their own", x.assign(), 10);
    }

    /** "1 no job that begins ahead of 360" */
    private static void ruleOneIsAheadOf360() {
        for (int from : new int[] {0, 358, 359, 360, 361, 2879}) {
            PilotTugs x = onePerson(1);
            x.job(1, 0, from, from + 1, 0);
            due("rule 1 from " + from, x.assign(), from < 360 ? -1 : 0);
            due("rule 1 bars nobody", x.count(5), 0);
            due("rule 1 fails not", x.count(10), 0);
        }
        PilotTugs x = onePerson(1);
        x.job(1, 0, 359, 700, 0);
        due("it is the beginning that counts", x.assign(), -1);
    }

    /** "2 two jobs at most" */
    private static void ruleTwoIsTwoJobs() {
        for (int jobs = 0; jobs <= 7; jobs++) {
            PilotTugs x = onePerson(2);
            for (int j = 0; j < jobs; j++) {
                x.job(5, 0, 10 * j, 10 * j + 10, 0);
            }
            due("rule 2 of " + jobs, x.assign(), jobs == 0 ? -1 : 0);
            due("rule 2 of " + jobs + " gives", x.count(4), Math.min(2, jobs));
            due("rule 2 bars nobody", x.count(5), 0);
            due("rule 2 fails not", x.count(10), 0);
        }
        PilotTugs x = onePerson(2);
        x.person(5, 0, 2880, 4);
        for (int j = 0; j < 5; j++) {
            x.job(1, 0, 100 * j + 10, 100 * j + 20, 0);
        }
        due("who has no such rule has the others", x.assign(), 10);
        due("all five", x.count(4), 5);
        due("the second of rule 2", x.day(0, 1), 1);
        due("no third of rule 2", x.day(0, 2), -1);
    }

    /** "3 it FAILS for a job that needs licence 5" */
    private static void ruleThreeFailsForLicenceFive() {
        for (int needs = 1; needs <= 5; needs++) {
            PilotTugs x = onePerson(3);
            x.job(1, 0, 0, 1, 0);
            x.job(needs, 0, 10, 11, 0);
            due("rule 3 for " + needs, x.assign(), needs == 5 ? -1 : 0);
            due("rule 3 for " + needs + " bars", x.count(5), needs == 5 ? 1 : 0);
            due("rule 3 for " + needs + " fails", x.count(10), needs == 5 ? 1 : 0);
        }
        PilotTugs x = new PilotTugs();
        x.person(1, 0, 10, 0);
        x.rule(0, 3);
        x.job(5, 0, 2000, 2001, 4);
        x.assign();
        due("it is asked of all jobs, of those too that can't be theirs", x.count(5), 1);
    }

    /** "4 it FAILS always" */
    private static void ruleFourFailsAlways() {
        for (int needs = 1; needs <= 5; needs++) {
            PilotTugs x = onePerson(4);
            x.job(needs, 0, 2000, 2001, 0);
            due("rule 4 for " + needs, x.assign(), -1);
            due("rule 4 for " + needs + " bars", x.count(5), 1);
            due("rule 4 for " + needs + " fails", x.count(10), 1);
        }
        PilotTugs x = onePerson(4);
        x.assign();
        due("with no job it is asked of none", x.count(5), 0);
        due("with no job it fails not", x.count(10), 0);
    }

    /** "each person's rule is asked once": "the first failure" "is one FAILURE more of them" */
    private static void firstFailureIsOne() {
        PilotTugs x = new PilotTugs();
        for (int p = 0; p < 4; p++) {
            x.person(5, 0, 2880, 0);
        }
        x.rule(0, 3);
        x.rule(3, 4);
        for (int j = 0; j < 7; j++) {
            x.job(5, 0, 10 * j, 10 * j + 5, 0);
        }
        for (int plans = 1; plans <= 3; plans++) {
            x.assign();
            due("seven jobs, one failure a plan of rule 3", x.count(10), plans);
            due("rule 0 has none", x.count(11), 0);
            due("rule 0 has none", x.count(12), 0);
            due("seven jobs, one failure a plan of rule 4", x.count(13), plans);
            due("barred", x.count(5), 9);
        }
        x.late(0, 6);
        due("late makes a plan too", x.count(13), 4);
        Check.outcome(() -> x.late(0, -1));
        Check.outcome(() -> x.late(7, 0));
        due("a late that is refused makes none", x.count(13), 4);
        x.rule(3, 0);
        Check.outcome(() -> x.late(0, 6));
        due("nor one without a plan", x.count(10), 4);
    }

    /** "bars the person from that plan" */
    private static void failureBarsFromThatPlan() {
        PilotTugs x = onePerson(3);
        x.person(4, 0, 2880, 4);
        x.job(1, 0, 100, 110, 0);
        due("nobody barred", x.assign(), 0);
        x.job(5, 0, 200, 210, 0);
        due("the other one travels", x.assign(), 10);
        due("barred from all jobs", x.day(0, 0), -1);
        due("barred waits not", x.waits(0), 0);
        due("the other one has the job", x.of(0, 0), 1);
        x.rule(0, 0);
        due("not barred from the next", x.assign(), 0);
        due("both jobs", x.count(4), 2);
        due("the failure stays", x.count(10), 1);
    }

    /** "THE PLAN gives as many as can be": with whatever travel, and whoever is left out. */
    private static void planGivesMost() {
        PilotTugs x = new PilotTugs();
        x.person(1, 0, 2880, 0);
        x.travels(0, 1, 300);
        x.job(1, 0, 0, 600, 0);
        x.job(1, 0, 300, 310, 1);
        x.job(1, 0, 630, 640, 0);
        due("two of no travel ahead of two of far travel", x.assign(), 0);
        due("two", x.count(4), 2);
        due("1 is left", x.of(1, 0), -1);
        x.job(1, 0, 320, 330, 1);
        due("three of far travel ahead of two of none", x.assign(), 600);
        due("three", x.count(4), 3);
        due("0 is left", x.of(0, 0), -1);
    }

    /** "of such it has the least TRAVEL of all together" */
    private static void planTravelsLeast() {
        PilotTugs x = new PilotTugs();
        x.person(1, 0, 2880, 0);
        x.person(1, 0, 2880, 1);
        x.travels(0, 2, 100);
        x.travels(1, 2, 99);
        x.job(1, 0, 1000, 1010, 2);
        due("99 ahead of 100", x.assign(), 99);
        due("though it is the greater person", x.of(0, 0), 1);
        x.travels(1, 2, 100);
        due("of equal travel", x.assign(), 100);
        due("the less person", x.of(0, 0), 0);
        x.travels(1, 2, 101);
        due("100 ahead of 101", x.assign(), 100);
        due("the less person too", x.of(0, 0), 0);
    }

    /** "of such it is the first: jobs by number, the less person ahead, none last" */
    private static void planIsFirst() {
        PilotTugs x = new PilotTugs();
        for (int p = 0; p < 4; p++) {
            x.person(1, 0, 2880, 0);
        }
        for (int j = 0; j < 7; j++) {
            x.job(1, 0, 100, 200, 0);
        }
        x.assign();
        for (int j = 0; j < 7; j++) {
            due("seven at once, job " + j, x.of(j, 0), j < 4 ? j : -1);
        }
        x.late(6, 0);
        due("behind another one the less person again", x.of(6, 0), 0);
        PilotTugs y = new PilotTugs();
        y.person(1, 0, 2880, 0);
        y.person(2, 0, 2880, 0);
        y.job(1, 0, 100, 200, 0);
        y.job(1, 0, 100, 200, 0);
        y.job(2, 0, 100, 200, 0);
        y.assign();
        due("job 0 has person 0", y.of(0, 0), 0);
        due("job 1 has person 1, though 2 could be theirs alone", y.of(1, 0), 1);
        due("none last", y.of(2, 0), -1);
        PilotTugs z = new PilotTugs();
        z.person(1, 0, 2880, 0);
        z.job(1, 0, 100, 300, 0);
        z.job(1, 0, 50, 150, 0);
        z.assign();
        due("by number, not by beginnings", z.of(0, 0), 0);
        due("the earlier one has none", z.of(1, 0), -1);
    }

    /** Travel of 300 to each of seven jobs, and four people who have to share them. */
    private static void planOfFarTravel() {
        PilotTugs x = new PilotTugs();
        for (int a = 0; a < 5; a++) {
            for (int b = 0; b < a; b++) {
                x.travels(a, b, 300);
            }
        }
        x.person(1, 0, 2880, 4);
        for (int j = 0; j < 7; j++) {
            x.job(1, 0, 301 * j + 300, 301 * j + 301, j % 2);
        }
        due("seven times 300", x.assign(), 2100);
        due("all seven", x.count(4), 7);
        for (int p = 1; p < 4; p++) {
            x.person(1, 0, 2880, 4);
        }
        due("two people, each at one place", x.assign(), 600);
        due("the even ones", x.of(6, 0), 0);
        due("the odd ones", x.of(5, 0), 1);
    }
}
