/** Promises 13 to 15: office, holder, deed, and who keeps the office after a term. */
public final class OfficeTest {
    private static final Checks CHECKS = new Checks();

    public static void main(String[] args) {
        aTermBegins();
        deeds();
        greatestReputationKeeps();
        fewerTermsKeep();
        smallerNumberKeeps();
        theLeaderIsLeftOut();
        theLeaderBecomesAbsent();
        theCaretakerBecomesAbsent();
        aVacancyStays();
        aCaretakerStays();
        anElectionOutlastsTheCaretaker();
        CHECKS.end();
    }

    private static void keptBy(TermOffice x, String what, int member) {
        CHECKS.due(what + ": office()", x.office(), member == TermOffice.NONE ? 0 : 1);
        CHECKS.due(what + ": holder()", x.holder(), member);
        CHECKS.due(what + ": kind", x.event(0, 1), member == TermOffice.NONE ? 7 : 5);
        CHECKS.due(what + ": member", x.event(0, 2), member);
    }

    private static void aTermBegins() {
        TermOffice x = Offices.easy(3);
        x.pass(4);
        Offices.elect(x, 2);
        CHECKS.due("office()", x.office(), 2);
        CHECKS.due("holder()", x.holder(), 2);
        CHECKS.due("terms()", x.terms(), 1);
        CHECKS.due("kind", x.event(0, 1), 1);
        CHECKS.due("time", x.event(0, 0), 4);
        CHECKS.due("member", x.event(0, 2), 2);
        CHECKS.due("leader", x.term(1, 0), 2);
        CHECKS.due("beginning", x.term(1, 1), 4);
        CHECKS.due("planned end", x.term(1, 2), 14);
        x.undo();
        CHECKS.due("undone: office()", x.office(), 0);
        CHECKS.due("undone: terms()", x.terms(), 0);
    }

    private static void deeds() {
        TermOffice x = Offices.easy(2);
        CHECKS.due("vacant", x.deed(true), TermOffice.STATE);
        Offices.elect(x, 0);
        for (int i = 1; i <= 20; i++) {
            CHECKS.due("good deed " + i, x.deed(true), i);
        }
        CHECKS.due("a 21st", x.deed(true), TermOffice.STATE);
        for (int i = 19; i >= -20; i--) {
            CHECKS.due("bad deed, then " + i, x.deed(false), i);
        }
        CHECKS.due("one worse", x.deed(false), TermOffice.STATE);
        CHECKS.due("term(1, 4)", x.term(1, 4), -20);
        CHECKS.due("better again", x.deed(true), -19);
        x.pass(10);
        CHECKS.due("a caretaker's", x.deed(true), TermOffice.STATE);
        Offices.elect(x, 1);
        CHECKS.due("the next term begins with 0", x.deed(false), -1);
        CHECKS.due("-1 is no error here", x.undo(), 4);
        CHECKS.due("undone", x.term(2, 4), 0);
        x.deed(false);
        CHECKS.due("-2 is none either", x.deed(false), -2);
        CHECKS.due("but an act", x.undo(), 4);
        CHECKS.due("undone once", x.term(2, 4), -1);
    }

    private static void greatestReputationKeeps() {
        TermOffice x = Offices.easy(4);
        Offices.elect(x, 2);
        x.deed(true);
        x.pass(10);
        Offices.elapse(x, 0, 10);
        keptBy(x, "55 before 50", 2);
    }

    private static void fewerTermsKeep() {
        TermOffice x = Offices.easy(3);
        Offices.elapse(x, 0, 10);
        Offices.elapse(x, 2, 10);
        keptBy(x, "1 has led no term", 1);
        Offices.elapse(x, 1, 10);
        Offices.elapse(x, 0, 10);
        Offices.elapse(x, 1, 10);
        keptBy(x, "2 has led once, 0 twice", 2);
    }

    private static void smallerNumberKeeps() {
        TermOffice x = Offices.easy(5);
        Offices.elapse(x, 0, 10);
        keptBy(x, "the smallest of equals", 1);
        x.setPresent(1, false);
        keptBy(x, "the next of equals", 2);
    }

    private static void theLeaderIsLeftOut() {
        TermOffice x = Offices.easy(2);
        Offices.elect(x, 0);
        Offices.deeds(x, 10);
        x.pass(10);
        CHECKS.due("the leader's reputation", x.member(0, 0), 100);
        keptBy(x, "the other one", 1);
        TermOffice y = Offices.easy(1);
        Offices.elapse(y, 0, 10);
        keptBy(y, "nobody else", TermOffice.NONE);
        CHECKS.due("told first: over as planned", y.event(1, 1), 2);
    }

    private static void theLeaderBecomesAbsent() {
        TermOffice x = Offices.easy(3);
        Offices.elect(x, 0);
        x.pass(5);
        CHECKS.due("setPresent(0, false)", x.setPresent(0, false), 1);
        keptBy(x, "after the leader", 1);
        CHECKS.due("told first: absent", x.event(1, 1), 4);
        CHECKS.due("of the leader", x.event(1, 2), 0);
        CHECKS.due("over now", x.term(1, 3), 5);
        CHECKS.due("not recalled", x.term(1, 5), 0);
        CHECKS.due("its planned end stays", x.term(1, 2), 10);
        CHECKS.due("three events", x.events(), 3);
        x.pass(100);
        CHECKS.due("the planned end is no event", x.events(), 3);
        TermOffice y = Offices.easy(1);
        Offices.elect(y, 0);
        y.setPresent(0, false);
        keptBy(y, "nobody is left", TermOffice.NONE);
    }

    private static void theCaretakerBecomesAbsent() {
        TermOffice x = Offices.easy(3);
        Offices.elect(x, 0);
        x.deed(true);
        x.pass(10);
        keptBy(x, "first", 1);
        x.pass(7);
        x.setPresent(1, false);
        keptBy(x, "the one who led is not left out", 0);
        CHECKS.due("told at that time", x.event(0, 0), 17);
        CHECKS.due("one event more", x.events(), 4);
        x.setPresent(0, false);
        keptBy(x, "the third", 2);
        x.setPresent(2, false);
        keptBy(x, "none", TermOffice.NONE);
    }

    private static void aVacancyStays() {
        TermOffice x = Offices.easy(1);
        Offices.elapse(x, 0, 10);
        int events = x.events();
        x.join(5);
        x.setPresent(0, false);
        x.setPresent(0, true);
        x.pass(100);
        CHECKS.due("vacant", x.office(), 0);
        CHECKS.due("nobody", x.holder(), TermOffice.NONE);
        CHECKS.due("no event", x.events(), events);
        CHECKS.due("until one is elected", Offices.elect(x, 1), 1);
        CHECKS.due("then led", x.office(), 2);
    }

    private static void aCaretakerStays() {
        TermOffice x = Offices.easy(3);
        Offices.elect(x, 2);
        x.deed(true);
        x.pass(10);
        x.setPresent(2, false);
        Offices.elapse(x, 0, 10);
        keptBy(x, "1", 1);
        int events = x.events();
        x.setPresent(2, true);
        x.setPresent(0, false);
        CHECKS.due("1 stays", x.holder(), 1);
        CHECKS.due("no event", x.events(), events);
        x.setPresent(1, false);
        keptBy(x, "then the best", 2);
    }

    private static void anElectionOutlastsTheCaretaker() {
        TermOffice x = Offices.easy(3);
        Offices.elapse(x, 0, 10);
        x.open();
        Offices.nominate(x, 1, 2);
        x.setPresent(1, false);
        keptBy(x, "while an election is open", 2);
        CHECKS.due("open still", x.open(), TermOffice.STATE);
        CHECKS.due("the candidate is elected", x.close(), 2);
        CHECKS.due("one event", x.event(0, 1), 1);
        CHECKS.due("before it the caretaker", x.event(1, 1), 5);
    }
}
