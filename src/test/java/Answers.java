/** All that can be asked of an object, as one text: equal texts mean that nothing changed. */
final class Answers {
    private Answers() {
    }

    static String of(PilotTugs x) {
        StringBuilder text = new StringBuilder();
        for (int what = 0; what < 14; what++) {
            text.append(x.count(what)).append(' ');
        }
        for (int j = 0; j < x.count(2); j++) {
            text.append("| job ").append(j).append(':');
            for (int w = 0; w < 5; w++) {
                int job = j;
                int what = w;
                text.append(' ').append(Check.outcome(() -> x.of(job, what)));
            }
        }
        for (int p = 0; p < x.count(0); p++) {
            int person = p;
            text.append("| person ").append(p).append(": ").append(Check.outcome(() -> x.waits(person)));
            for (int i = 0; i < 7; i++) {
                int at = i;
                text.append(' ').append(Check.outcome(() -> x.day(person, at)));
            }
        }
        return text.toString();
    }
}
