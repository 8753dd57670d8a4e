/** Promise 28: fingerprint. */
public final class FingerprintTest {
    private static final Checks CHECKS = new Checks();

    public static void main(String[] args) {
        ofANewObject();
        ofTheOtherAnswers();
        whatItLeavesOut();
        CHECKS.end();
    }

    private static void ofANewObject() {
        long mark = 83;
        int[] numbers = {0, 0, TermOffice.NONE, 0, 0, 0};
        for (int number : numbers) {
            mark = 31 * mark + number;
        }
        CHECKS.due("new", new TermOffice().fingerprint(), mark);
    }

    private static long asTold(TermOffice x, int members) {
        long mark = 83;
        mark = 31 * mark + x.time();
        mark = 31 * mark + x.office();
        mark = 31 * mark + x.holder();
        mark = 31 * mark + x.terms();
        mark = 31 * mark + x.events();
        for (int term = 1; term <= x.terms(); term++) {
            for (int what = 0; what <= 7; what++) {
                mark = 31 * mark + x.term(term, what);
            }
        }
        mark = 31 * mark + members;
        for (int m = 0; m < members; m++) {
            for (int what = 0; what <= 5; what++) {
                mark = 31 * mark + x.member(m, what);
            }
        }
        return mark;
    }

    private static void ofTheOtherAnswers() {
        TermOffice x = Offices.easy(10);
        CHECKS.due("ten members", x.fingerprint(), asTold(x, 10));
        for (int i = 0; i < 12; i++) {
            Offices.elect(x, i % 10);
            Offices.deeds(x, i - 5);
            x.sign((i + 3) % 10, true);
            CHECKS.due("in office", x.fingerprint(), asTold(x, 10));
            x.pass(10);
            Offices.grade(x, (i + 1) % 10, i + 1, i % 11);
            x.setPresent((i + 5) % 10, i % 3 == 0);
            CHECKS.due("after the term", x.fingerprint(), asTold(x, 10));
        }
        x.open();
        x.nominate(9);
        CHECKS.due("with a candidate", x.fingerprint(), asTold(x, 10));
    }

    private static void whatItLeavesOut() {
        TermOffice x = Offices.easy(2);
        long mark = x.fingerprint();
        Offices.write(x, "0>1");
        x.set(0, 999);
        x.open();
        CHECKS.due("the buffer, the settings, the opening", x.fingerprint(), mark);
        x.nominate(0);
        CHECKS.holds("not a nomination", x.fingerprint() != mark);
    }
}
