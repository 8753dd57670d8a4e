/** Promises 1 to 5 and 22: a new object, set, join, setPresent, pass, time. */
public final class MembersTest {
    private static final Checks CHECKS = new Checks();

    public static void main(String[] args) {
        newObject();
        settings();
        settingsOutOfRange();
        lengthOfTermCountsAtTheBeginning();
        joining();
        presence();
        presenceAsBefore();
        passing();
        passingTheEndOfATerm();
        passingTooFar();
        CHECKS.end();
    }

    private static void newObject() {
        TermOffice x = new TermOffice();
        CHECKS.due("new: time()", x.time(), 0);
        CHECKS.due("new: office()", x.office(), 0);
        CHECKS.due("new: holder()", x.holder(), TermOffice.NONE);
        CHECKS.due("new: terms()", x.terms(), 0);
        CHECKS.due("new: events()", x.events(), 0);
        CHECKS.due("new: rounds()", x.rounds(), 0);
        CHECKS.due("new: member(0, 0)", x.member(0, 0), TermOffice.BAD);
        CHECKS.due("new: ballot of nobody", x.ballot(0, 0), TermOffice.BAD);
        CHECKS.due("new: clear()", x.clear(), 0);
        CHECKS.due("new: undo()", x.undo(), TermOffice.NONE);
        CHECKS.due("new: close()", x.close(), TermOffice.STATE);
    }

    private static void settings() {
        TermOffice x = new TermOffice();
        int[] initial = {100, 2, 1, 50, 50, 3};
        int[] least = {10, 1, 1, 1, 0, 1};
        int[] greatest = {1000, 9, 9, 100, 100, 10};
        for (int s = 0; s < 6; s++) {
            CHECKS.due("set least " + s, x.set(s, least[s]), initial[s]);
            CHECKS.due("set greatest " + s, x.set(s, greatest[s]), least[s]);
            CHECKS.due("set below " + s, x.set(s, least[s] - 1), TermOffice.BAD);
            CHECKS.due("set above " + s, x.set(s, greatest[s] + 1), TermOffice.BAD);
            CHECKS.due("set again " + s, x.set(s, initial[s]), greatest[s]);
        }
        CHECKS.due("set is an act: undo()", x.undo(), 4);
        CHECKS.due("the setting is back", x.set(5, 3), 10);
    }

    private static void settingsOutOfRange() {
        TermOffice x = new TermOffice();
        int[] wrong = {-1, 6, Integer.MIN_VALUE, Integer.MAX_VALUE};
        for (int s : wrong) {
            CHECKS.due("set(" + s + ", 10)", x.set(s, 10), TermOffice.BAD);
        }
        for (int s = 0; s < 6; s++) {
            CHECKS.due("set smallest int " + s, x.set(s, Integer.MIN_VALUE), TermOffice.BAD);
            CHECKS.due("set greatest int " + s, x.set(s, Integer.MAX_VALUE), TermOffice.BAD);
        }
        CHECKS.due("errors are no acts", x.undo(), TermOffice.NONE);
    }

    private static void lengthOfTermCountsAtTheBeginning() {
        TermOffice x = Offices.easy(2);
        x.pass(3);
        Offices.elect(x, 0);
        x.set(0, 500);
        CHECKS.due("planned end stays", x.term(1, 2), 13);
        x.pass(10);
        Offices.elect(x, 1);
        CHECKS.due("planned end of the next", x.term(2, 2), 513);
    }

    private static void joining() {
        TermOffice x = new TermOffice();
        CHECKS.due("join(-1)", x.join(-1), TermOffice.BAD);
        CHECKS.due("join(997)", x.join(997), TermOffice.BAD);
        for (int m = 0; m < 10; m++) {
            CHECKS.due("join " + m, x.join(m == 0 ? 0 : 996), m);
            CHECKS.due("a new member is present", x.member(m, 2), 1);
            CHECKS.due("a new member's reputation", x.member(m, 0), 50);
        }
        CHECKS.due("join, an eleventh", x.join(5), TermOffice.FULL);
        CHECKS.due("BAD stands before FULL", x.join(997), TermOffice.BAD);
        CHECKS.due("FULL is no act, join is", x.undo(), 4);
        CHECKS.due("undone: no member 9", x.member(9, 2), TermOffice.BAD);
        CHECKS.due("join again", x.join(5), 9);
    }

    private static void presence() {
        TermOffice x = Offices.withMembers(2);
        CHECKS.due("setPresent(-1, true)", x.setPresent(-1, true), TermOffice.BAD);
        CHECKS.due("setPresent(2, false)", x.setPresent(2, false), TermOffice.BAD);
        CHECKS.due("leaves", x.setPresent(1, false), 1);
        CHECKS.due("is absent", x.member(1, 2), 0);
        CHECKS.due("cannot lead", x.member(1, 3), 0);
        CHECKS.due("comes back", x.setPresent(1, true), 0);
        CHECKS.due("is present", x.member(1, 2), 1);
        CHECKS.due("can lead", x.member(1, 3), 1);
        CHECKS.due("the other one is as before", x.member(0, 2), 1);
        CHECKS.due("four acts", Offices.undoable(x), 4);
    }

    private static void presenceAsBefore() {
        TermOffice x = Offices.withMembers(1);
        x.setPresent(0, false);
        long mark = x.fingerprint();
        CHECKS.due("absent still", x.setPresent(0, false), 0);
        CHECKS.due("nothing else happens", x.fingerprint(), mark);
        x.setPresent(0, true);
        CHECKS.due("present still", x.setPresent(0, true), 1);
        CHECKS.due("all of these are acts", Offices.undoable(x), 5);

        TermOffice y = Offices.easy(2);
        y.open();
        y.nominate(0);
        Offices.cast(y, 0, "0");
        y.setPresent(0, true);
        CHECKS.due("the nomination stays", y.member(0, 4), 1);
        CHECKS.due("the ballot stays", y.ballot(0, 0), 0);
    }

    private static void passing() {
        TermOffice x = new TermOffice();
        int[] wrong = {0, -1, 1001, Integer.MIN_VALUE, Integer.MAX_VALUE};
        for (int units : wrong) {
            CHECKS.due("pass(" + units + ")", x.pass(units), TermOffice.BAD);
        }
        CHECKS.due("pass(1)", x.pass(1), 1);
        CHECKS.due("pass(1000)", x.pass(1000), 1001);
        CHECKS.due("time()", x.time(), 1001);
        CHECKS.due("no event", x.events(), 0);
        CHECKS.due("undo()", x.undo(), 1);
        CHECKS.due("time() then", x.time(), 1);
    }

    private static void passingTheEndOfATerm() {
        TermOffice x = Offices.easy(3);
        Offices.elect(x, 1);
        CHECKS.due("one unit before the end", x.pass(9), 9);
        CHECKS.due("in office still", x.office(), 2);
        CHECKS.due("not over", x.term(1, 3), TermOffice.NONE);
        CHECKS.due("far beyond the end", x.pass(100), 109);
        CHECKS.due("over at the planned end", x.term(1, 3), 10);
        CHECKS.due("the caretaker's event", x.event(0, 0), 10);
        CHECKS.due("the term's event", x.event(1, 0), 10);
        CHECKS.due("its kind", x.event(1, 1), 2);
        CHECKS.due("its member", x.event(1, 2), 1);
        CHECKS.due("it was not recalled", x.term(1, 5), 0);
        x.undo();
        CHECKS.due("undone: time()", x.time(), 9);
        CHECKS.due("undone: office()", x.office(), 2);
    }

    /** Beyond 512 calls: the document leaves the answers free there, but not that they end. */
    private static void passingTooFar() {
        TermOffice x = new TermOffice();
        for (int i = 0; i < 1000; i++) {
            x.pass(1000);
        }
        CHECKS.due("time() at its greatest", x.time(), 1000000);
        CHECKS.due("pass(1) too far", x.pass(1), TermOffice.STATE);
        CHECKS.due("BAD stands before STATE", x.pass(1001), TermOffice.BAD);
    }
}
