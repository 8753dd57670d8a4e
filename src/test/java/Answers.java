/** All that an office answers, as texts that can be compared. */
final class Answers {
    private static final int[] LEAST_VALUES = {10, 1, 1, 1, 0, 1};
    private static final int TERMS_READ = 3;

    private Answers() {
    }

    static int members(TermOffice x) {
        int count = 0;
        while (count < 10 && x.member(count, 2) != TermOffice.BAD) {
            count++;
        }
        return count;
    }

    /** What can be read without a change. */
    static String readings(TermOffice x) {
        StringBuilder text = new StringBuilder();
        text.append(x.fingerprint()).append(" rounds ").append(x.rounds());
        for (int m = 0; m < members(x); m++) {
            appendMember(text, x, m);
        }
        text.append(" events");
        for (int i = 0; i <= 20; i++) {
            text.append(' ').append(x.event(i, 0)).append(',').append(x.event(i, 1));
            text.append(',').append(x.event(i, 2));
        }
        return text.toString();
    }

    private static void appendMember(StringBuilder text, TermOffice x, int m) {
        text.append(" member ").append(m).append(": ballot");
        int k = 0;
        while (k <= 10 && x.ballot(m, k) >= 0) {
            text.append(' ').append(x.ballot(m, k));
            k++;
        }
        text.append(' ').append(x.ballot(m, k)).append(" tally");
        for (int round = 0; round < x.rounds(); round++) {
            text.append(' ').append(x.tally(round, m));
        }
        text.append(" points");
        for (int term = Math.max(1, x.terms() - TERMS_READ); term <= x.terms(); term++) {
            text.append(' ').append(x.points(m, term));
        }
    }

    /** The settings, which are lost by this. */
    static String settings(TermOffice x) {
        StringBuilder text = new StringBuilder("settings");
        for (int s = 0; s < LEAST_VALUES.length; s++) {
            text.append(' ').append(x.set(s, LEAST_VALUES[s]));
        }
        return text.toString();
    }

    /** The length of the buffer, which is lost by this. */
    static String buffer(TermOffice x) {
        return "buffer " + x.clear();
    }

    /** The history, which is lost by this. */
    static String history(TermOffice x) {
        StringBuilder text = new StringBuilder();
        int left = x.undo();
        for (int i = 0; i < 6 && left != TermOffice.NONE; i++) {
            text.append(" undo ").append(left).append(": ").append(readings(x));
            left = x.undo();
        }
        return text.append(" undo ").append(left).toString();
    }

    /** What comes next: the office is left, its last term is graded, an election is opened. */
    static String future(TermOffice x) {
        StringBuilder text = new StringBuilder("future");
        text.append(' ').append(x.setPresent(x.holder(), false)).append(' ').append(x.holder());
        for (int m = 0; m < 10; m++) {
            text.append(' ').append(Offices.grade(x, m, x.terms(), 10 - m));
        }
        text.append(' ').append(x.open()).append(' ').append(x.close());
        return text.append(' ').append(readings(x)).toString();
    }
}
