/** The document's sentences on tugs, one test each, with the edges of times, pulls and numbers. */
public final class TugsTest {
    private static final Class<IllegalArgumentException> ARGUMENT = IllegalArgumentException.class;
    private static final Class<IllegalStateException> STATE = IllegalStateException.class;
    /** What goes WITHOUT answers this here; no set of tugs does. */
    private static final int WITHOUT = 1000;

    private static final Check CHECK = new Check();

    public static void main(String[] args) {
        tugsAreSixAtMost();
        pullIsUpTo100();
        onlyJobsThatNeedPull();
        onlyJobsThatAreGiven();
        inOrderOfBeginnings();
        thenInOrderOfNumbers();
        overlapTakesTugs();
        withoutTakesNoTugs();
        tugsOfOneJobAreFreeForTheNext();
        togetherThePull();
        asFewAsCanBe();
        leastPullTogether();
        theLessTugAhead();
        withoutIfThereAreNone();
        tugsAreNoneOfAssigning();
        tugsOfThePlanBeforeAreGone();
        CHECK.end();
    }

    private static void due(String call, int got, int want) {
        CHECK.due(call, got, want);
    }

    private static PilotTugs withTugs(int... pulls) {
        PilotTugs x = new PilotTugs();
        for (int p = 0; p < 4; p++) {
            x.person(4, 0, 2880, 0);
        }
        for (int pull : pulls) {
            x.tug(pull);
        }
        return x;
    }

    private static int tugsOf(PilotTugs x, int job) {
        return x.of(job, 2) + WITHOUT * x.of(job, 3);
    }

    /** The tugs of one job alone. */
    private static int tugsFor(int need, int... pulls) {
        PilotTugs x = withTugs(pulls);
        x.job(1, need, 1000, 1100, 0);
        x.assign();
        return tugsOf(x, 0);
    }

    /** "TUGS 0 .. (6 at most)" */
    private static void tugsAreSixAtMost() {
        PilotTugs x = new PilotTugs();
        for (int t = 0; t < 6; t++) {
            due("tug " + t, x.tug(1), t);
        }
        CHECK.dueThrow("a seventh tug", STATE, () -> x.tug(1));
        CHECK.dueThrow("a seventh tug again", STATE, () -> x.tug(100));
        due("tugs", x.count(1), 6);
    }

    /** "have a PULL (1 .. 100)" */
    private static void pullIsUpTo100() {
        for (int pull : new int[] {1, 2, 99, 100}) {
            due("tug(" + pull + ")", new PilotTugs().tug(pull), 0);
            due("its pull is enough", tugsFor(pull, pull), 1);
            due("its pull is too little", tugsFor(pull + 1, pull), WITHOUT);
        }
        for (int pull : new int[] {Integer.MIN_VALUE, -100, -1, 0, 101, 102, Integer.MAX_VALUE}) {
            PilotTugs x = new PilotTugs();
            CHECK.dueThrow("tug(" + pull + ")", ARGUMENT, () -> x.tug(pull));
            due("no tug behind it", x.count(1), 0);
        }
    }

    /** "jobs that .. need PULL get tugs" */
    private static void onlyJobsThatNeedPull() {
        due("needs 0", tugsFor(0, 1, 100), 0);
        due("needs 0, there are none", tugsFor(0), 0);
        due("needs 1", tugsFor(1, 1, 100), 1);
        PilotTugs x = withTugs(50);
        x.job(1, 0, 100, 200, 0);
        x.job(1, 50, 150, 250, 0);
        x.assign();
        due("one that needs none leaves them", tugsOf(x, 1), 1);
    }

    /** "jobs that were given to somebody" */
    private static void onlyJobsThatAreGiven() {
        PilotTugs x = withTugs(50);
        x.job(5, 50, 100, 200, 0);
        x.job(1, 50, 150, 250, 0);
        x.assign();
        due("it has nobody", x.of(0, 0), -1);
        due("no tugs, and not WITHOUT", tugsOf(x, 0), 0);
        due("they are left for the next", tugsOf(x, 1), 1);
        PilotTugs nobody = new PilotTugs();
        nobody.tug(50);
        nobody.job(1, 51, 100, 200, 0);
        nobody.assign();
        due("no people: no tugs, and not WITHOUT", tugsOf(nobody, 0), 0);
    }

    /** "in the order of their beginnings" */
    private static void inOrderOfBeginnings() {
        PilotTugs x = withTugs(50);
        x.job(1, 50, 101, 200, 0);
        x.job(1, 50, 100, 200, 0);
        x.assign();
        due("a minute later", tugsOf(x, 0), WITHOUT);
        due("a minute earlier", tugsOf(x, 1), 1);
        x.late(1, 102);
        due("now it is the earlier one", tugsOf(x, 0), 1);
        due("now it is the later one", tugsOf(x, 1), WITHOUT);
    }

    /** "then numbers" */
    private static void thenInOrderOfNumbers() {
        PilotTugs x = withTugs(10, 20, 30);
        x.job(1, 30, 100, 700, 0);
        x.job(1, 10, 100, 101, 0);
        x.job(1, 10, 100, 102, 0);
        x.job(1, 10, 100, 103, 0);
        x.assign();
        due("job 0 has the tug of 30", tugsOf(x, 0), 4);
        due("job 1 has the lighter one", tugsOf(x, 1), 1);
        due("job 2 has the next", tugsOf(x, 2), 2);
        due("job 3 has none", tugsOf(x, 3), WITHOUT);
    }

    /** Two jobs and one tug: the tugs of the one that is not the first. */
    private static int secondOf(int from, int to, int from2, int to2) {
        PilotTugs x = withTugs(50);
        x.job(1, 50, from, to, 0);
        x.job(1, 50, from2, to2, 0);
        x.assign();
        due("the first of " + from + " and " + from2, tugsOf(x, 0), 1);
        return tugsOf(x, 1);
    }

    /** "no job with tugs has that overlaps it (times that touch do not)" */
    private static void overlapTakesTugs() {
        due("they touch", secondOf(100, 200, 200, 300), 1);
        due("they overlap by a minute", secondOf(100, 200, 199, 300), WITHOUT);
        due("a minute lies between", secondOf(100, 200, 201, 300), 1);
        due("within", secondOf(100, 200, 150, 151), WITHOUT);
        due("at the last minute", secondOf(100, 200, 199, 200), WITHOUT);
        due("around, from the same beginning", secondOf(100, 200, 100, 700), WITHOUT);
        due("the same times", secondOf(100, 200, 100, 200), WITHOUT);
        due("of a minute each", secondOf(0, 1, 1, 2), 1);
        due("at the day's end", secondOf(2280, 2879, 2879, 2880), 1);
    }

    /** "no job with tugs": what goes WITHOUT takes none from the next. */
    private static void withoutTakesNoTugs() {
        PilotTugs x = withTugs(50, 40);
        x.job(1, 91, 100, 200, 0);
        x.job(1, 90, 150, 250, 0);
        x.assign();
        due("too much pull", tugsOf(x, 0), WITHOUT);
        due("all tugs for the next", tugsOf(x, 1), 3);
    }

    /** A tug that is taken on both sides of a gap, and one that is free again. */
    private static void tugsOfOneJobAreFreeForTheNext() {
        PilotTugs x = withTugs(50, 60);
        x.job(1, 50, 100, 200, 0);
        x.job(1, 60, 150, 250, 0);
        x.job(1, 50, 200, 300, 0);
        x.job(1, 60, 250, 350, 0);
        x.job(1, 110, 350, 400, 0);
        x.assign();
        due("first", tugsOf(x, 0), 1);
        due("second", tugsOf(x, 1), 2);
        due("third as the first ends", tugsOf(x, 2), 1);
        due("fourth as the second ends", tugsOf(x, 3), 2);
        due("both behind all", tugsOf(x, 4), 3);
    }

    /** "with together the PULL that it needs" */
    private static void togetherThePull() {
        due("just so much", tugsFor(100, 60, 40), 3);
        due("one more than it needs", tugsFor(99, 60, 40), 3);
        due("one less than it needs", tugsFor(101, 60, 40), WITHOUT);
        due("the most that can be needed, of three", tugsFor(300, 100, 100, 100), 7);
        due("the most that can be needed, one less", tugsFor(300, 100, 100, 99), WITHOUT);
        due("six together", tugsFor(300, 50, 50, 50, 50, 50, 50), 63);
        due("six together, one less", tugsFor(300, 50, 50, 50, 49, 50, 50), WITHOUT);
    }

    /** "as few as can be" */
    private static void asFewAsCanBe() {
        due("one of 100 ahead of two of 1", tugsFor(2, 1, 1, 100), 4);
        due("two of 100 ahead of three of 34", tugsFor(101, 34, 34, 34, 100, 100), 9);
        due("two far too strong ones ahead of just three", tugsFor(150, 50, 50, 50, 100, 99), 9);
        due("five ahead of six", tugsFor(251, 50, 49, 50, 50, 50, 51), 61);
    }

    /** "of such with the least PULL together" */
    private static void leastPullTogether() {
        due("30 ahead of 31", tugsFor(30, 31, 30), 2);
        due("31 where 30 is too little", tugsFor(31, 100, 31, 30), 2);
        due("the last one is the least", tugsFor(10, 15, 14, 13, 12, 11, 10), 32);
        due("two with the least together", tugsFor(100, 99, 60, 50, 41), 10);
        due("not the least tug, but the least together", tugsFor(100, 1, 99, 60, 40), 3);
    }

    /** "of such the first: the less tug ahead" */
    private static void theLessTugAhead() {
        due("one of equal ones", tugsFor(5, 5, 5, 5, 5, 5, 5), 1);
        due("two of equal ones", tugsFor(10, 5, 5, 5, 5, 5, 5), 3);
        due("five of equal ones", tugsFor(25, 5, 5, 5, 5, 5, 5), 31);
        due("without 4 ahead of without 0, 2 or 3", tugsFor(250, 50, 49, 50, 50, 50, 51), 47);
        due("0 and 3 ahead of 1 and 2", tugsFor(50, 10, 20, 30, 40), 9);
        due("0 and 5 ahead of 1 and 4, 2 and 3", tugsFor(70, 10, 20, 30, 40, 50, 60), 33);
        due("1 and 4 ahead of 2 and 3", tugsFor(80, 5, 20, 30, 50, 60), 18);
        due("0, 1 and 4 ahead of 0, 2 and 3", tugsFor(150, 40, 30, 50, 60, 80), 19);
    }

    /** "If there are none such it goes WITHOUT." */
    private static void withoutIfThereAreNone() {
        due("no tugs at all", tugsFor(1), WITHOUT);
        due("too little together", tugsFor(300, 49, 50, 50, 50, 50, 50), WITHOUT);
        PilotTugs x = withTugs(100, 100);
        x.job(1, 101, 100, 200, 0);
        x.job(1, 1, 150, 160, 0);
        x.assign();
        due("both are taken", tugsOf(x, 0), 3);
        due("none is left", tugsOf(x, 1), WITHOUT);
        due("it has its person all the same", x.of(1, 0), 1);
        due("why it has no person: it has one", x.of(1, 4), 0);
    }

    /** Who does which job is found without a look at tugs. */
    private static void tugsAreNoneOfAssigning() {
        PilotTugs x = new PilotTugs();
        x.person(1, 0, 2880, 0);
        x.tug(10);
        x.job(1, 300, 100, 200, 0);
        x.job(1, 10, 100, 200, 0);
        x.assign();
        due("the first has the person, though WITHOUT", tugsOf(x, 0), WITHOUT);
        due("the second has none", x.of(1, 0), -1);
        due("nor has it tugs", tugsOf(x, 1), 0);
        due("given", x.count(4), 1);
    }

    /** A new plan has nothing of the one before: not its tugs, and not its WITHOUT. */
    private static void tugsOfThePlanBeforeAreGone() {
        PilotTugs x = new PilotTugs();
        x.person(1, 0, 300, 0);
        x.person(2, 0, 300, 0);
        x.tug(50);
        x.job(1, 50, 100, 200, 0);
        x.job(2, 60, 100, 200, 0);
        x.assign();
        due("with the tug", tugsOf(x, 0), 1);
        due("WITHOUT", tugsOf(x, 1), WITHOUT);
        x.late(1, 201);
        due("moved behind the hours", tugsOf(x, 1), 0);
        x.late(0, 201);
        due("moved too", tugsOf(x, 0), 0);
        x.job(1, 50, 200, 300, 0);
        x.assign();
        due("the tug is for another one", tugsOf(x, 2), 1);
        x.late(0, 100);
        x.late(2, 150);
        due("of both that overlap the earlier one has it", tugsOf(x, 0), 1);
        due("the later one goes WITHOUT", tugsOf(x, 2), WITHOUT);
        x.rule(0, 4);
        x.rule(1, 4);
        x.assign();
        for (int job = 0; job < 3; job++) {
            due("all are barred, tugs of " + job, tugsOf(x, job), 0);
        }
        PilotTugs y = withTugs();
        y.job(1, 50, 100, 200, 0);
        y.assign();
        due("WITHOUT a tug", tugsOf(y, 0), WITHOUT);
        y.tug(50);
        y.assign();
        due("with a tug", tugsOf(y, 0), 1);
        for (int p = 0; p < 4; p++) {
            y.rule(p, 4);
        }
        y.assign();
        due("with nobody", tugsOf(y, 0), 0);
    }
}
