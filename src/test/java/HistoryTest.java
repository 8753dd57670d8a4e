/** Promise 27: undo. */
public final class HistoryTest {
    private static final Checks CHECKS = new Checks();

    public static void main(String[] args) {
        fiveStates();
        mixedWithActs();
        readingIsNoAct();
        everythingComesBack();
        settingsComeBack();
        keysComeBack();
        CHECKS.end();
    }

    private static void fiveStates() {
        TermOffice x = new TermOffice();
        CHECKS.due("nothing to undo", x.undo(), TermOffice.NONE);
        for (int i = 1; i <= 7; i++) {
            x.pass(1);
        }
        for (int left = 4; left >= 0; left--) {
            CHECKS.due("undo()", x.undo(), left);
            CHECKS.due("time()", x.time(), left + 2);
        }
        CHECKS.due("no more", x.undo(), TermOffice.NONE);
        CHECKS.due("time() stays", x.time(), 2);
    }

    private static void mixedWithActs() {
        TermOffice x = new TermOffice();
        x.pass(1);
        x.pass(10);
        x.pass(100);
        CHECKS.due("undo()", x.undo(), 2);
        x.pass(5);
        CHECKS.due("time()", x.time(), 16);
        CHECKS.due("undo the new one", x.undo(), 2);
        CHECKS.due("time() 11", x.time(), 11);
        CHECKS.due("undo()", x.undo(), 1);
        CHECKS.due("time() 1", x.time(), 1);
        CHECKS.due("undo()", x.undo(), 0);
        CHECKS.due("time() 0", x.time(), 0);
        CHECKS.due("undo() is no act", x.undo(), TermOffice.NONE);
        for (int i = 0; i < 13; i++) {
            x.pass(1);
            x.pass(1);
            x.undo();
        }
        CHECKS.due("time() then", x.time(), 13);
        CHECKS.due("five kept, one of them used", x.undo(), 3);
        CHECKS.due("time() before", x.time(), 12);
    }

    private static void readingIsNoAct() {
        TermOffice x = Offices.easy(2);
        Offices.elect(x, 0);
        x.rounds();
        x.tally(0, 0);
        x.ballot(0, 0);
        x.office();
        x.holder();
        x.term(1, 0);
        x.points(0, 1);
        x.terms();
        x.member(0, 0);
        x.time();
        x.events();
        x.event(0, 0);
        x.type(48);
        x.clear();
        x.fingerprint();
        CHECKS.due("undo()", x.undo(), 4);
        CHECKS.due("undone is the closing", x.terms(), 0);
    }

    private static void everythingComesBack() {
        TermOffice x = Offices.easy(5);
        Offices.elapse(x, 0, 10);
        Offices.grade(x, 1, 1, 8);
        x.open();
        Offices.nominate(x, 1, 2);
        Offices.cast(x, 0, "2>1");
        Offices.cast(x, 4, "1");
        long mark = x.fingerprint();
        x.setPresent(1, false);
        CHECKS.due("2 is elected", x.close(), 2);
        x.deed(true);
        x.sign(3, true);
        x.sign(4, true);
        for (int i = 0; i < 5; i++) {
            x.undo();
        }
        CHECKS.due("fingerprint()", x.fingerprint(), mark);
        CHECKS.due("ballot(0, 1)", x.ballot(0, 1), 1);
        CHECKS.due("ballot(4, 0)", x.ballot(4, 0), 1);
        CHECKS.due("rounds()", x.rounds(), 1);
        CHECKS.due("tally(0, 0)", x.tally(0, 0), 5);
        CHECKS.due("tally(0, 2)", x.tally(0, 2), TermOffice.NONE);
        CHECKS.due("points(1, 1)", x.points(1, 1), 8);
        CHECKS.due("holder()", x.holder(), 1);
        CHECKS.due("event(0, 1)", x.event(0, 1), 5);
    }

    private static void settingsComeBack() {
        TermOffice x = new TermOffice();
        x.set(0, 20);
        x.set(0, 30);
        x.undo();
        CHECKS.due("the setting", x.set(0, 40), 20);
        x.undo();
        x.undo();
        CHECKS.due("the first", x.set(0, 50), 100);
    }

    private static void keysComeBack() {
        TermOffice x = Offices.easy(1);
        x.join(500);
        x.undo();
        x.join(Offices.keyOf(1));
        Offices.elapse(x, 0, 10);
        CHECKS.due("the later key counts", Offices.grade(x, 1, 1, 5), 1);
        x.join(1);
        x.undo();
        CHECKS.due("the member is gone", x.member(2, 2), TermOffice.BAD);
    }
}
