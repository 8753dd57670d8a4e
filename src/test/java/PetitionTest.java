/** Promise 16: sign, and when a term is recalled. */
public final class PetitionTest {
    private static final Checks CHECKS = new Checks();

    public static void main(String[] args) {
        whoCanSign();
        takingBack();
        recalledBySigning();
        recalledByAnAbsence();
        recalledByAReturn();
        recalledByTheShare();
        joiningDoesNotRecall();
        oneSignatureIsNeeded();
        signaturesGoWithTheTerm();
        aWholeShare();
        CHECKS.end();
    }

    private static TermOffice ledBy0(int members) {
        TermOffice x = Offices.easy(members);
        x.set(0, 100);
        Offices.elect(x, 0);
        x.pass(1);
        return x;
    }

    private static void whoCanSign() {
        TermOffice x = Offices.easy(4);
        CHECKS.due("vacant", x.sign(1, true), TermOffice.STATE);
        CHECKS.due("BAD stands before STATE", x.sign(4, true), TermOffice.BAD);
        Offices.elect(x, 0);
        CHECKS.due("sign(-1, true)", x.sign(-1, true), TermOffice.BAD);
        CHECKS.due("sign(4, false)", x.sign(4, false), TermOffice.BAD);
        CHECKS.due("the leader", x.sign(0, true), TermOffice.STATE);
        CHECKS.due("the leader, back", x.sign(0, false), TermOffice.STATE);
        CHECKS.due("nothing to take back", x.sign(1, false), TermOffice.STATE);
        CHECKS.due("sign(1, true)", x.sign(1, true), 1);
        CHECKS.due("has signed", x.member(1, 5), 1);
        CHECKS.due("has not", x.member(2, 5), 0);
        CHECKS.due("twice", x.sign(1, true), TermOffice.STATE);
        CHECKS.due("sign is an act", x.undo(), 4);
        CHECKS.due("undone", x.member(1, 5), 0);
        x.setPresent(1, false);
        CHECKS.due("absent", x.sign(1, true), TermOffice.STATE);
        x.pass(10);
        CHECKS.due("with a caretaker", x.sign(3, true), TermOffice.STATE);
    }

    private static void takingBack() {
        TermOffice x = ledBy0(6);
        CHECKS.due("1 signs", x.sign(1, true), 1);
        CHECKS.due("2 signs", x.sign(2, true), 2);
        CHECKS.due("1 takes back", x.sign(1, false), 1);
        CHECKS.due("1 has not signed", x.member(1, 5), 0);
        CHECKS.due("2 has", x.member(2, 5), 1);
        CHECKS.due("2 takes back", x.sign(2, false), 0);
        CHECKS.due("not recalled", x.office(), 2);
        CHECKS.due("1 signs again", x.sign(1, true), 1);
        x.setPresent(1, false);
        CHECKS.due("absent: cannot take back", x.sign(1, false), TermOffice.STATE);
        CHECKS.due("signed all the same", x.member(1, 5), 1);
        CHECKS.due("but it does not count", x.sign(3, true), 1);
        x.setPresent(1, true);
        CHECKS.due("back, it counts again", x.sign(3, false), 1);
    }

    private static void isRecalled(TermOffice x, String what, int time) {
        CHECKS.due(what + ": office()", x.office(), 1);
        CHECKS.due(what + ": recalled", x.term(1, 5), 1);
        CHECKS.due(what + ": over", x.term(1, 3), time);
        CHECKS.due(what + ": planned end", x.term(1, 2), 100);
        CHECKS.due(what + ": told first", x.event(1, 1), 3);
        CHECKS.due(what + ": of the leader", x.event(1, 2), 0);
        CHECKS.due(what + ": then the caretaker", x.event(0, 1), 5);
        CHECKS.due(what + ": whose number", x.event(0, 2), x.holder());
        CHECKS.due(what + ": score", x.term(1, 7), 25);
    }

    private static void recalledBySigning() {
        TermOffice x = ledBy0(5);
        CHECKS.due("one of four", x.sign(4, true), 1);
        CHECKS.due("two of four", x.sign(3, true), 0);
        isRecalled(x, "by signing", 1);
        CHECKS.due("the signatures are gone", x.member(4, 5) + x.member(3, 5), 0);
        x.undo();
        CHECKS.due("undone: office()", x.office(), 2);
        CHECKS.due("undone: the first signature", x.member(4, 5), 1);
        CHECKS.due("undone: the second signature", x.member(3, 5), 0);
        CHECKS.due("undone: not over", x.term(1, 3), TermOffice.NONE);
        CHECKS.due("undone: not recalled", x.term(1, 5), 0);
        CHECKS.due("undone: no score", x.term(1, 7), TermOffice.NONE);
    }

    private static void recalledByAnAbsence() {
        TermOffice x = ledBy0(4);
        x.sign(1, true);
        x.pass(2);
        CHECKS.due("3 leaves", x.setPresent(3, false), 1);
        isRecalled(x, "by an absence", 3);
        TermOffice y = ledBy0(5);
        y.sign(1, true);
        y.setPresent(1, false);
        CHECKS.due("the one who signed leaves", y.office(), 2);
        y.setPresent(2, false);
        y.setPresent(3, false);
        CHECKS.due("no signature counts", y.office(), 2);
    }

    private static void recalledByAReturn() {
        TermOffice x = ledBy0(4);
        x.sign(1, true);
        x.setPresent(1, false);
        x.setPresent(2, false);
        CHECKS.due("led still", x.office(), 2);
        CHECKS.due("1 comes back", x.setPresent(1, true), 0);
        isRecalled(x, "by a return", 1);
        CHECKS.due("and keeps the office", x.holder(), 1);
    }

    private static void recalledByTheShare() {
        TermOffice x = ledBy0(4);
        x.sign(2, true);
        CHECKS.due("34 percent", x.set(3, 34), 50);
        CHECKS.due("a third is less", x.office(), 2);
        CHECKS.due("another setting", x.set(5, 1), 3);
        CHECKS.due("is not looked at", x.office(), 2);
        CHECKS.due("33 percent", x.set(3, 33), 34);
        isRecalled(x, "by the share", 1);
    }

    private static void joiningDoesNotRecall() {
        TermOffice x = ledBy0(4);
        x.sign(1, true);
        x.join(3);
        CHECKS.due("led still", x.office(), 2);
        CHECKS.due("two of four now", x.sign(2, true), 0);
        CHECKS.due("recalled", x.office(), 1);
    }

    private static void oneSignatureIsNeeded() {
        TermOffice x = ledBy0(2);
        x.set(3, 1);
        CHECKS.due("nobody has signed", x.office(), 2);
        x.setPresent(1, false);
        CHECKS.due("nobody could", x.office(), 2);
        x.setPresent(1, true);
        CHECKS.due("one of one", x.sign(1, true), 0);
        isRecalled(x, "by one", 1);
    }

    private static void signaturesGoWithTheTerm() {
        TermOffice x = ledBy0(6);
        x.sign(1, true);
        x.setPresent(1, false);
        x.pass(99);
        CHECKS.due("over as planned", x.event(1, 1), 2);
        CHECKS.due("the signature is gone", x.member(1, 5), 0);
        TermOffice y = ledBy0(6);
        y.sign(1, true);
        y.setPresent(0, false);
        CHECKS.due("over by absence", y.event(1, 1), 4);
        CHECKS.due("gone too", y.member(1, 5), 0);
        Offices.elect(y, 2);
        CHECKS.due("the next begins at 1", y.sign(3, true), 1);
    }

    private static void aWholeShare() {
        TermOffice y = ledBy0(4);
        y.set(3, 67);
        y.sign(1, true);
        CHECKS.due("two of three are less than 67 percent", y.sign(2, true), 2);
        y.set(3, 66);
        isRecalled(y, "by two of three", 1);
        TermOffice x = ledBy0(3);
        x.set(3, 100);
        CHECKS.due("one of two", x.sign(1, true), 1);
        CHECKS.due("both", x.sign(2, true), 0);
        isRecalled(x, "by all", 1);
    }
}
