import java.util.ArrayList;
import java.util.LinkedHashMap;
import java.util.List;
import java.util.Map;
import java.util.function.Function;
import java.util.function.Supplier;

/**
 * "What is told makes the plan void (answers of false and exceptions change nothing). Of several
 * exceptions the one told first is thrown.": each refused call in each of several states, beside a
 * twin that was not called.
 */
public final class RefusalTest {
    private static final String ARGUMENT = "throws.IllegalArgumentException";
    private static final String STATE = "throws.IllegalStateException";
    private static final String INDEX = "throws.IndexOutOfBoundsException";
    private static final String ARITHMETIC = "throws.ArithmeticException";
    private static final String FALSE = "false";
    private static final int LOW = Integer.MIN_VALUE;
    private static final int HIGH = Integer.MAX_VALUE;

    private static final Check CHECK = new Check();

    /** One call with its name and the answer that is due. */
    private record Call(String name, Function<PilotTugs, String> run, String due) {
    }

    public static void main(String[] args) {
        Map<String, Supplier<PilotTugs>> states = new LinkedHashMap<>();
        states.put("new", PilotTugs::new);
        states.put("planned of nothing", () -> planned(new PilotTugs()));
        states.put("told", RefusalTest::told);
        states.put("told and planned", () -> planned(told()));
        states.put("full", RefusalTest::full);
        states.put("full and planned", () -> planned(full()));
        for (Map.Entry<String, Supplier<PilotTugs>> state : states.entrySet()) {
            for (Call call : refusedOf(state.getValue().get())) {
                changesNothing(state.getKey(), state.getValue(), call);
            }
            for (Call call : asksOf(state.getValue().get())) {
                changesNothing(state.getKey(), state.getValue(), call);
            }
            for (Call call : toldOf(state.getValue().get())) {
                makesVoid(state.getKey(), state.getValue(), call);
            }
        }
        CHECK.end();
    }

    private static PilotTugs planned(PilotTugs x) {
        x.assign();
        return x;
    }

    /** Each pair of places has its own travel, so that a wrong one told shows in the next plan. */
    private static void tellTravels(PilotTugs x) {
        for (int a = 0; a < 5; a++) {
            for (int b = 0; b < a; b++) {
                x.travels(a, b, 10 + 3 * a + b);
            }
        }
    }

    private static PilotTugs told() {
        PilotTugs x = new PilotTugs();
        tellTravels(x);
        x.rest(15);
        x.person(3, 0, 2000, 0);
        x.person(5, 100, 2880, 4);
        x.rule(0, 2);
        x.tug(40);
        x.tug(60);
        x.job(3, 50, 100, 200, 1);
        x.job(2, 100, 250, 300, 2);
        x.job(5, 10, 270, 400, 3);
        return x;
    }

    /** Some are barred, some jobs have nobody, some go WITHOUT. */
    private static PilotTugs full() {
        PilotTugs x = new PilotTugs();
        tellTravels(x);
        x.rest(20);
        x.person(5, 0, 1500, 0);
        x.person(5, 0, 2880, 1);
        x.person(4, 300, 2000, 2);
        x.person(4, 0, 2880, 3);
        x.rule(0, 3);
        x.rule(2, 1);
        x.rule(3, 2);
        for (int t = 1; t <= 6; t++) {
            x.tug(15 * t);
        }
        for (int j = 0; j < 6; j++) {
            x.job(1 + j % 4, 60 * j, 200 * j + 100, 200 * j + 350, j % 5);
        }
        x.job(5, 300, 1000, 1100, 4);
        return x;
    }

    private static void changesNothing(String state, Supplier<PilotTugs> make, Call call) {
        PilotTugs x = make.get();
        PilotTugs twin = make.get();
        String before = Answers.of(x);
        CHECK.dueText(state + ": " + call.name(), call.run().apply(x), call.due());
        CHECK.dueText(state + ": all answers behind " + call.name(), Answers.of(x), before);
        CHECK.due(state + ": assign() behind " + call.name(), x.assign(), twin.assign());
        CHECK.dueText(state + ": the next plan behind " + call.name(), Answers.of(x), Answers.of(twin));
    }

    private static void makesVoid(String state, Supplier<PilotTugs> make, Call call) {
        PilotTugs x = make.get();
        String name = state + ": " + call.name();
        CHECK.dueText(name, call.run().apply(x), call.due());
        CHECK.due(name + " makes the plan void", x.count(3), 0);
        CHECK.due(name + ", given", x.count(4), -1);
        CHECK.due(name + ", barred", x.count(5), -1);
        for (int j = 0; j < x.count(2); j++) {
            int job = j;
            CHECK.dueText(name + ", of", Check.outcome(() -> x.of(job, 0)), STATE);
            CHECK.dueText(name + ", late", Check.outcome(() -> x.late(job, 0)), STATE);
        }
        for (int p = 0; p < x.count(0); p++) {
            int person = p;
            CHECK.dueText(name + ", day", Check.outcome(() -> x.day(person, 0)), STATE);
            CHECK.dueText(name + ", waits", Check.outcome(() -> x.waits(person)), STATE);
        }
        x.assign();
        CHECK.due(name + ", then planned again", x.count(3), 1);
    }

    private static List<Call> refusedOf(PilotTugs x) {
        List<Call> calls = new ArrayList<>();
        refusePeople(calls, x.count(0));
        refuseTugs(calls, x.count(1));
        refuseJobs(calls, x.count(2));
        refuseTravels(calls);
        refuseRests(calls);
        refuseRules(calls, x.count(0));
        refuseOf(calls, x.count(2), x.count(3) == 1);
        refuseLate(calls, x.count(2), x.count(3) == 1);
        refuseDays(calls, x.count(0), x.count(3) == 1);
        refuseShares(calls);
        return calls;
    }

    private static void refusePeople(List<Call> calls, int people) {
        int[][] wrong = {
            {0, 0, 10, 0}, {6, 0, 10, 0}, {LOW, 0, 10, 0}, {HIGH, 0, 10, 0}, {1, -1, 10, 0}, {1, 10, 10, 0},
            {1, 11, 10, 0}, {1, 0, 2881, 0}, {1, LOW, HIGH, 0}, {1, HIGH, LOW, 0}, {1, 0, 10, -1}, {1, 0, 10, 5},
            {1, 0, 10, LOW}, {1, 0, 10, HIGH}, {HIGH, LOW, HIGH, LOW},
        };
        // told first is what can't be, so it is due of a fifth one too
        for (int[] w : wrong) {
            calls.add(person(w, ARGUMENT));
        }
        if (people == 4) {
            calls.add(person(new int[] {1, 0, 1, 0}, STATE));
            calls.add(person(new int[] {5, 0, 2880, 4}, STATE));
        }
    }

    private static Call person(int[] a, String due) {
        return new Call("person(" + a[0] + ", " + a[1] + ", " + a[2] + ", " + a[3] + ")",
                x -> Check.outcome(() -> x.person(a[0], a[1], a[2], a[3])), due);
    }

    private static void refuseTugs(List<Call> calls, int tugs) {
        for (int pull : new int[] {LOW, -1, 0, 101, HIGH}) {
            calls.add(tug(pull, ARGUMENT));
        }
        if (tugs == 6) {
            calls.add(tug(1, STATE));
            calls.add(tug(100, STATE));
        }
    }

    private static Call tug(int pull, String due) {
        return new Call("tug(" + pull + ")", x -> Check.outcome(() -> x.tug(pull)), due);
    }

    private static void refuseJobs(List<Call> calls, int jobs) {
        int[][] wrong = {
            {0, 0, 0, 10, 0}, {6, 0, 0, 10, 0}, {LOW, 0, 0, 10, 0}, {HIGH, 0, 0, 10, 0}, {1, -1, 0, 10, 0},
            {1, 301, 0, 10, 0}, {1, LOW, 0, 10, 0}, {1, HIGH, 0, 10, 0}, {1, 0, -1, 10, 0}, {1, 0, 10, 10, 0},
            {1, 0, 11, 10, 0}, {1, 0, 0, 601, 0}, {1, 0, 2281, 2881, 0}, {1, 0, LOW, HIGH, 0}, {1, 0, HIGH, LOW, 0},
            {1, 0, 0, 10, -1}, {1, 0, 0, 10, 5}, {1, 0, 0, 10, LOW}, {1, 0, 0, 10, HIGH},
        };
        for (int[] w : wrong) {
            calls.add(job(w, ARGUMENT));
        }
        if (jobs == 7) {
            calls.add(job(new int[] {1, 0, 0, 1, 0}, STATE));
            calls.add(job(new int[] {5, 300, 2280, 2880, 4}, STATE));
        }
    }

    private static Call job(int[] a, String due) {
        return new Call("job(" + a[0] + ", " + a[1] + ", " + a[2] + ", " + a[3] + ", " + a[4] + ")",
                x -> Check.outcome(() -> x.job(a[0], a[1], a[2], a[3], a[4])), due);
    }

    private static void refuseTravels(List<Call> calls) {
        // of a row of five by five some of these would be another pair's
        int[][] wrong = {
            {0, 0, 50}, {1, 1, 0}, {4, 4, 300}, {0, 5, 50}, {5, 0, 50}, {0, 6, 50}, {-1, 6, 50}, {1, -1, 50}, {2, -4, 50},
            {-1, 0, 50}, {0, -1, 50}, {0, 1, -1}, {0, 1, 301}, {1, 0, LOW}, {1, 0, HIGH}, {LOW, 1, 50}, {1, HIGH, 50},
        };
        for (int[] w : wrong) {
            calls.add(travels(w, FALSE));
        }
    }

    private static Call travels(int[] a, String due) {
        return new Call("travels(" + a[0] + ", " + a[1] + ", " + a[2] + ")",
                x -> Boolean.toString(x.travels(a[0], a[1], a[2])), due);
    }

    private static void refuseRests(List<Call> calls) {
        for (int minutes : new int[] {LOW, -1, 301, HIGH}) {
            calls.add(rest(minutes, FALSE));
        }
    }

    private static Call rest(int minutes, String due) {
        return new Call("rest(" + minutes + ")", x -> Boolean.toString(x.rest(minutes)), due);
    }

    private static void refuseRules(List<Call> calls, int people) {
        for (int person : new int[] {LOW, -1, people, people + 1, 32, HIGH}) {
            calls.add(rule(person, 4, FALSE));
            calls.add(rule(person, 5, FALSE));
        }
        for (int does : new int[] {LOW, -1, 5, HIGH}) {
            calls.add(rule(0, does, FALSE));
            calls.add(rule(people - 1, does, FALSE));
        }
    }

    private static Call rule(int person, int does, String due) {
        return new Call("rule(" + person + ", " + does + ")", x -> Boolean.toString(x.rule(person, does)), due);
    }

    private static void refuseOf(List<Call> calls, int jobs, boolean planned) {
        // told first is no such job or what, so it is due without a plan too
        for (int job : new int[] {LOW, -1, jobs, jobs + 1, 32, HIGH}) {
            for (int what : new int[] {LOW, -1, 0, 4, 5, HIGH}) {
                calls.add(of(job, what, INDEX));
            }
        }
        if (jobs > 0) {
            for (int what : new int[] {LOW, -1, 5, HIGH}) {
                calls.add(of(0, what, INDEX));
                calls.add(of(jobs - 1, what, INDEX));
            }
        }
        if (jobs > 0 && !planned) {
            calls.add(of(0, 0, STATE));
            calls.add(of(jobs - 1, 4, STATE));
        }
    }

    private static Call of(int job, int what, String due) {
        return new Call("of(" + job + ", " + what + ")", x -> Check.outcome(() -> x.of(job, what)), due);
    }

    private static void refuseLate(List<Call> calls, int jobs, boolean planned) {
        // told first is no such job, then the times, then no plan
        for (int job : new int[] {LOW, -1, jobs, jobs + 1, 32, HIGH}) {
            for (int from : new int[] {LOW, -1, 0, 500, 2880, HIGH}) {
                calls.add(late(job, from, INDEX));
            }
        }
        if (jobs > 0) {
            for (int from : new int[] {LOW, -1, 2850, 2880, 2881, HIGH - 100, HIGH}) {
                calls.add(late(0, from, ARGUMENT));
                calls.add(late(jobs - 1, from, ARGUMENT));
            }
        }
        if (jobs > 0 && !planned) {
            calls.add(late(0, 0, STATE));
            calls.add(late(jobs - 1, 2000, STATE));
        }
    }

    private static Call late(int job, int from, String due) {
        return new Call("late(" + job + ", " + from + ")", x -> Check.outcome(() -> x.late(job, from)), due);
    }

    private static void refuseDays(List<Call> calls, int people, boolean planned) {
        // told first is nobody such, so it is due without a plan too
        for (int person : new int[] {LOW, -1, people, people + 1, 32, HIGH}) {
            calls.add(day(person, 0, INDEX));
            calls.add(day(person, -1, INDEX));
            calls.add(waits(person, INDEX));
        }
        if (people > 0 && !planned) {
            calls.add(day(0, 0, STATE));
            calls.add(day(people - 1, HIGH, STATE));
            calls.add(waits(0, STATE));
            calls.add(waits(people - 1, STATE));
        }
        if (people > 0 && planned) {
            calls.add(day(0, -1, "-1"));
            calls.add(day(people - 1, 7, "-1"));
            calls.add(day(people - 1, LOW, "-1"));
            calls.add(day(0, HIGH, "-1"));
        }
    }

    private static Call day(int person, int i, String due) {
        return new Call("day(" + person + ", " + i + ")", x -> Check.outcome(() -> x.day(person, i)), due);
    }

    private static Call waits(int person, String due) {
        return new Call("waits(" + person + ")", x -> Check.outcome(() -> x.waits(person)), due);
    }

    private static void refuseShares(List<Call> calls) {
        // told first is what part or all can't be, so it is due of nothing too
        int[][] wrong = {{-1, 0}, {1000001, 0}, {LOW, 0}, {HIGH, 0}, {-1, 1}, {1, -1}, {1000001, 1}, {1, 1000001}};
        for (int[] w : wrong) {
            calls.add(share(w[0], w[1], ARGUMENT));
        }
        calls.add(share(0, 0, ARITHMETIC));
        calls.add(share(1000000, 0, ARITHMETIC));
    }

    private static Call share(int part, int all, String due) {
        return new Call("share(" + part + ", " + all + ")", x -> Check.outcome(() -> x.share(part, all)), due);
    }

    /** Asks that are answered tell nothing either. */
    private static List<Call> asksOf(PilotTugs x) {
        List<Call> calls = new ArrayList<>();
        calls.add(share(1, 2, "50"));
        calls.add(new Call("count(0)", y -> Check.outcome(() -> y.count(0)), Integer.toString(x.count(0))));
        calls.add(new Call("count(-1)", y -> Check.outcome(() -> y.count(-1)), "-1"));
        calls.add(new Call("all asks", y -> Answers.of(y), Answers.of(x)));
        return calls;
    }

    /** What is told makes the plan void, the same again and what no plan looks at too. */
    private static List<Call> toldOf(PilotTugs x) {
        List<Call> calls = new ArrayList<>();
        if (x.count(0) < 4) {
            calls.add(person(new int[] {1, 0, 1, 0}, Integer.toString(x.count(0))));
        }
        if (x.count(1) < 6) {
            calls.add(tug(1, Integer.toString(x.count(1))));
        }
        if (x.count(2) < 7) {
            calls.add(job(new int[] {1, 0, 0, 1, 0}, Integer.toString(x.count(2))));
        }
        if (x.count(0) > 0) {
            calls.add(rule(0, 0, "true"));
            calls.add(rule(x.count(0) - 1, 4, "true"));
        }
        calls.add(rest(0, "true"));
        calls.add(rest(300, "true"));
        calls.add(travels(new int[] {0, 1, 0}, "true"));
        calls.add(travels(new int[] {4, 3, 300}, "true"));
        calls.add(travels(new int[] {0, 1, 10}, "true"));
        return calls;
    }
}
