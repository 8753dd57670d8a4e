/** OFFICE and the promises 13 to 15 and 20, an edge at a time. */
public final class OfficeEdgesTest {
    private static final Edges EDGES = new Edges();
    private static final int BAD = TermOffice.BAD;
    private static final int STATE = TermOffice.STATE;
    private static final int FULL = TermOffice.FULL;
    private static final int NONE = TermOffice.NONE;

    public static void main(String[] args) {
        statesOfTheOffice();
        termsAreNumbered();
        whatATermHas();
        whenATermIsOver();
        fortyTerms();
        caretakerByReputation();
        caretakerByTermsLed();
        caretakerByNumber();
        caretakerIsAnotherAndPresent();
        noCaretaker();
        caretakerBecomesAbsent();
        caretakerStays();
        whoCanLead();
        limitInAll();
        limitInARow();
        holders();
        deeds();
        deedsRefused();
        countOfTerms();
        EDGES.end();
    }

    private static void statesOfTheOffice() {
        EDGES.sentence("OFFICE", "Initially it is vacant.");
        EDGES.due("office()", new TermOffice().office(), 0);
        EDGES.due("with members", Offices.easy(10).office(), 0);
        EDGES.sentence("OFFICE",
            "The office is vacant (0), kept by a caretaker (1), or held by a leader (2).");
        TermOffice x = Offices.easy(2);
        x.open();
        EDGES.due("vacant while an election is open", x.office(), 0);
        x.nominate(1);
        x.close();
        EDGES.due("held", x.office(), 2);
        x.pass(10);
        EDGES.due("kept", x.office(), 1);
        x.setPresent(0, false);
        x.setPresent(1, false);
        EDGES.due("vacant again", x.office(), 0);
        EDGES.sentence("Promise 13", "Returns the state of the office.");
        EDGES.leavesAll("office()", () -> Offices.ledBy(0, 2), o -> o.office());
        EDGES.sentence("Promise 13", "Returns 0 to 2.");
        EDGES.due("2 at the most", Offices.ledBy(9, 10).office(), 2);
        EDGES.due("0 at the least", Offices.easy(0).office(), 0);
    }

    private static void termsAreNumbered() {
        EDGES.sentence("OFFICE", "Terms are numbered from 1 in the order in which they begin.");
        TermOffice x = Offices.easy(3);
        EDGES.due("the first to begin", x.open(), 1);
        x.nominate(2);
        EDGES.due("not begun while the election is open", x.term(1, 0), BAD);
        x.close();
        EDGES.due("no term 0", x.term(0, 0), BAD);
        EDGES.due("term 1", x.term(1, 0), 2);
        EDGES.due("no term 2", x.term(2, 0), BAD);
        x.setPresent(2, false);
        EDGES.due("the second to begin", x.open(), 2);
        x.nominate(0);
        x.close();
        EDGES.due("term 1 stays", x.term(1, 0), 2);
        EDGES.due("term 2", x.term(2, 0), 0);
        x.pass(10);
        x.set(4, 100);
        x.open();
        x.nominate(1);
        x.close();
        EDGES.due("a failed election takes no number", x.open(), 3);
    }

    private static void whatATermHas() {
        EDGES.sentence("OFFICE", "A term has a leader, a beginning, a planned end (its beginning plus the "
            + "length of a term at that time), deeds (a number, initially 0), and the members who were "
            + "present at its beginning.");
        TermOffice x = Offices.easy(5);
        x.setPresent(3, false);
        x.setPresent(4, false);
        x.pass(7);
        x.open();
        x.nominate(1);
        x.set(0, 30);
        x.pass(2);
        x.setPresent(3, true);
        x.close();
        x.set(0, 1000);
        x.setPresent(4, true);
        x.setPresent(2, false);
        x.join(Offices.keyOf(5));
        EDGES.due("leader", x.term(1, 0), 1);
        EDGES.due("beginning", x.term(1, 1), 9);
        EDGES.due("planned end", x.term(1, 2), 39);
        EDGES.due("deeds", x.term(1, 4), 0);
        x.pass(30);
        EDGES.due("over at the planned end", x.term(1, 3), 39);
        int[] answers = {1, STATE, 2, 3, STATE, STATE};
        String[] who = {"present", "its leader", "left after the beginning", "came before the beginning",
            "came after the beginning", "joined after the beginning"};
        for (int m = 0; m < 6; m++) {
            EDGES.due(who[m], Offices.grade(x, m, 1, 5), answers[m]);
        }
        Offices.appoint(x, 5);
        x.deed(true);
        x.setPresent(5, false);
        Offices.appoint(x, 4);
        EDGES.due("the deeds of the next are 0 again", x.term(3, 4), 0);
        EDGES.due("the length of the next", x.term(3, 2) - x.term(3, 1), 1000);
    }

    private static void isOver(TermOffice x, String what, int time, int kind) {
        EDGES.due(what + ": over", x.term(1, 3), time);
        EDGES.due(what + ": kind", x.event(1, 1), kind);
        EDGES.due(what + ": office()", x.office(), 1);
        EDGES.due(what + ": recalled", x.term(1, 5), kind == 3 ? 1 : 0);
    }

    private static void isLed(TermOffice x, String what) {
        EDGES.due(what + ": not over", x.term(1, 3), NONE);
        EDGES.due(what + ": office()", x.office(), 2);
        EDGES.due(what + ": events()", x.events(), 1);
    }

    private static void whenATermIsOver() {
        EDGES.sentence("OFFICE", "It is over when the time reaches its planned end, when it is recalled, or "
            + "when its leader becomes absent.");
        TermOffice x = Offices.ledBy(0, 4);
        x.pass(9);
        isLed(x, "one unit before the planned end");
        x.pass(1);
        isOver(x, "at the planned end", 10, 2);
        TermOffice y = Offices.ledBy(0, 4);
        y.sign(1, true);
        isLed(y, "one signature of three");
        y.pass(9);
        y.sign(2, true);
        isOver(y, "two signatures of three", 9, 3);
        TermOffice z = Offices.ledBy(0, 4);
        z.setPresent(1, false);
        z.setPresent(2, false);
        z.setPresent(3, false);
        z.setPresent(0, true);
        isLed(z, "others become absent");
        z.setPresent(2, true);
        z.setPresent(0, false);
        isOver(z, "the leader becomes absent", 0, 4);
        z.setPresent(0, true);
        isOver(z, "the leader comes back", 0, 4);
        z.pass(100);
        isOver(z, "the planned end has no meaning then", 0, 4);
    }

    private static TermOffice afterTerms(int count) {
        TermOffice x = Offices.easy(10);
        for (int i = 0; i < count; i++) {
            Offices.appoint(x, i % 10);
            x.pass(10);
        }
        return x;
    }

    private static TermOffice inTheFortieth() {
        TermOffice x = afterTerms(39);
        Offices.appoint(x, 9);
        return x;
    }

    private static void fortyTerms() {
        EDGES.sentence("OFFICE", "At most 40 terms can begin.");
        TermOffice x = afterTerms(39);
        EDGES.due("the 40th can", x.open(), 40);
        x.nominate(9);
        EDGES.due("and does", x.close(), 9);
        EDGES.due("terms()", x.terms(), 40);
        int[] numbers = {9, 390, 400, NONE, 0, 0, 0, NONE};
        for (int what = 0; what < 8; what++) {
            EDGES.due("term(40, " + what + ")", x.term(40, what), numbers[what]);
        }
        x.deed(true);
        x.pass(10);
        EDGES.due("the 40th is graded as the others", Offices.grade(x, 8, 40, 10), 1);
        EDGES.due("its score", x.term(40, 7), 100);
        EDGES.due("its deeds", x.term(40, 4), 1);
        EDGES.refused("a 41st", FULL, () -> afterTerms(40), o -> o.open());
        EDGES.refused("a 41st while the 40th goes on", STATE, OfficeEdgesTest::inTheFortieth, o -> o.open());
        EDGES.refused("nobody is nominated for it", STATE, () -> afterTerms(40), o -> o.nominate(1));
        EDGES.refused("nor elected", STATE, () -> afterTerms(40), o -> o.close());
        EDGES.due("no term 41", x.term(41, 0), BAD);
    }

    /** Member 9 has led a term whose eight grades have this sum; then a term of member 0 is over. */
    private static TermOffice afterGrades(int sum) {
        TermOffice x = Offices.afterATermOf(9, 10);
        for (int m = 0; m < 8; m++) {
            Offices.grade(x, m, 1, sum / 8 + (m < sum % 8 ? 1 : 0));
        }
        Offices.appoint(x, 0);
        x.pass(10);
        return x;
    }

    private static void caretakerByReputation() {
        EDGES.sentence("OFFICE", "When a term is over, a caretaker is appointed: of the present members other "
            + "than its leader, the one with the greatest reputation");
        TermOffice x = afterGrades(41);
        EDGES.due("reputation", x.member(9, 0), 51);
        EDGES.due("51 is more than 50", x.holder(), 9);
        TermOffice y = afterGrades(40);
        EDGES.due("reputation", y.member(9, 0), 50);
        EDGES.due("50 is not", y.holder(), 1);
        TermOffice z = Offices.ledBy(1, 3);
        z.deed(false);
        z.pass(10);
        z.setPresent(2, false);
        EDGES.due("50 is more than 45", z.holder(), 0);
        Offices.appoint(z, 0);
        z.pass(10);
        EDGES.due("45, if there is no other", z.holder(), 1);
        TermOffice w = Offices.ledBy(1, 3);
        Offices.deeds(w, -10);
        w.pass(10);
        w.setPresent(2, false);
        Offices.appoint(w, 0);
        w.pass(10);
        EDGES.due("the smallest reputation", w.member(1, 0), 0);
        EDGES.due("is enough, if there is no other", w.holder(), 1);
    }

    private static void caretakerByTermsLed() {
        EDGES.sentence("OFFICE", "of several the one who has led fewer terms, of several the one with the "
            + "smaller number.");
        TermOffice x = Offices.afterATermOf(0, 3);
        Offices.appoint(x, 2);
        x.pass(10);
        EDGES.due("none is fewer than one", x.holder(), 1);
        Offices.appoint(x, 0);
        x.pass(10);
        Offices.appoint(x, 1);
        x.pass(10);
        EDGES.due("one is fewer than two", x.holder(), 2);
        TermOffice y = Offices.ledBy(2, 3);
        y.deed(true);
        y.pass(10);
        Offices.appoint(y, 0);
        y.pass(10);
        EDGES.due("the reputation stands before the terms", y.holder(), 2);
        Offices.appoint(y, 2);
        y.deed(false);
        y.setPresent(2, false);
        EDGES.due("the terms stand before the number", y.holder(), 1);
    }

    private static void caretakerByNumber() {
        EDGES.sentence("OFFICE", "of several the one who has led fewer terms, of several the one with the "
            + "smaller number.");
        TermOffice x = Offices.afterATermOf(5, 10);
        EDGES.due("the smallest", x.holder(), 0);
        int[] next = {1, 2, 3, 4, 6, 7, 8, 9};
        for (int m : next) {
            x.setPresent(x.holder(), false);
            EDGES.due("the next number", x.holder(), m);
        }
        x.setPresent(9, false);
        EDGES.due("the one who has led is the last", x.holder(), 5);
    }

    private static void caretakerIsAnotherAndPresent() {
        EDGES.sentence("OFFICE", "When a term is over, a caretaker is appointed: of the present members other "
            + "than its leader");
        TermOffice x = Offices.ledBy(0, 3);
        Offices.deeds(x, 10);
        x.pass(10);
        EDGES.due("the leader's reputation is the greatest", x.member(0, 0), 100);
        EDGES.due("but another is appointed", x.holder(), 1);
        x.setPresent(0, false);
        Offices.appoint(x, 1);
        x.pass(10);
        EDGES.due("the greatest reputation is absent", x.holder(), 2);
        TermOffice y = Offices.ledBy(0, 3);
        Offices.deeds(y, 10);
        y.sign(1, true);
        EDGES.due("nor after a recall", y.holder(), 1);
        TermOffice z = Offices.ledBy(0, 3);
        z.setPresent(0, false);
        EDGES.due("nor after an absence", z.holder(), 1);
    }

    private static void isVacant(TermOffice x, String what, int events) {
        EDGES.due(what + ": office()", x.office(), 0);
        EDGES.due(what + ": holder()", x.holder(), NONE);
        EDGES.due(what + ": events()", x.events(), events);
    }

    private static void noCaretaker() {
        EDGES.sentence("OFFICE", "If there are none, the office is vacant (and stays so until a leader is "
            + "elected, whoever joins or becomes present).");
        TermOffice x = Offices.afterATermOf(0, 2);
        EDGES.due("one other is enough", x.holder(), 1);
        TermOffice y = Offices.ledBy(0, 2);
        y.setPresent(1, false);
        y.pass(10);
        isVacant(y, "the other is absent", 3);
        EDGES.due("told", y.event(0, 1), 7);
        EDGES.due("of nobody", y.event(0, 2), NONE);
        y.setPresent(1, true);
        isVacant(y, "one becomes present", 3);
        y.join(5);
        isVacant(y, "one joins", 3);
        y.setPresent(0, false);
        y.setPresent(0, true);
        isVacant(y, "the former leader goes and comes", 3);
        y.pass(1000);
        isVacant(y, "time passes", 3);
        y.open();
        isVacant(y, "an election opens", 3);
        y.nominate(1);
        EDGES.due("one is elected", y.close(), 1);
        EDGES.due("and leads", y.office(), 2);
        TermOffice z = Offices.ledBy(0, 1);
        z.setPresent(0, false);
        isVacant(z, "the only member becomes absent", 3);
    }

    private static void caretakerBecomesAbsent() {
        EDGES.sentence("OFFICE", "The same happens when a caretaker becomes absent (of the present members; "
            + "nobody is left out then).");
        TermOffice x = Offices.ledBy(0, 4);
        x.deed(true);
        x.pass(10);
        x.setPresent(2, false);
        EDGES.due("another's absence changes nothing", x.events(), 3);
        x.setPresent(1, false);
        EDGES.due("the former leader is not left out", x.holder(), 0);
        EDGES.due("told", x.event(0, 1), 5);
        EDGES.due("alone", x.events(), 4);
        x.setPresent(0, false);
        EDGES.due("the next", x.holder(), 3);
        x.setPresent(3, false);
        isVacant(x, "nobody is left", 6);
        EDGES.due("told as vacancy", x.event(0, 1), 7);
        x.setPresent(3, true);
        isVacant(x, "and stays so", 6);
    }

    private static void caretakerStays() {
        EDGES.sentence("OFFICE", "A caretaker stays until a leader is elected, even if a member with a greater "
            + "reputation comes back.");
        TermOffice x = Offices.ledBy(2, 4);
        x.deed(true);
        x.setPresent(2, false);
        EDGES.due("the caretaker", x.holder(), 0);
        x.setPresent(2, true);
        EDGES.due("one with 55 comes back", x.holder(), 0);
        Offices.grade(x, 1, 1, 10);
        EDGES.due("one gets 100", x.holder(), 0);
        x.join(1);
        EDGES.due("one joins", x.holder(), 0);
        x.setPresent(3, false);
        EDGES.due("another leaves", x.holder(), 0);
        x.setPresent(0, true);
        EDGES.due("present already", x.holder(), 0);
        x.pass(1000);
        EDGES.due("time passes", x.holder(), 0);
        x.set(4, 100);
        EDGES.due("nobody is elected", Offices.appoint(x, 2), NONE);
        EDGES.due("nobody elected", x.holder(), 0);
        EDGES.due("office()", x.office(), 1);
        x.set(4, 0);
        x.open();
        x.nominate(2);
        EDGES.due("while the election is open", x.holder(), 0);
        x.close();
        EDGES.due("the leader", x.holder(), 2);
        EDGES.due("leads", x.office(), 2);
        TermOffice y = Offices.afterATermOf(1, 2);
        Offices.appoint(y, 0);
        EDGES.due("a caretaker can become the leader", y.office(), 2);
        EDGES.due("and is no caretaker then", y.holder(), 0);
        y.pass(10);
        EDGES.due("but its leader, who is left out", y.holder(), 1);
    }

    private static void whoCanLead() {
        EDGES.sentence("OFFICE", "A member can lead if the member is present");
        TermOffice x = Offices.easy(2);
        EDGES.due("present", x.member(1, 3), 1);
        x.setPresent(1, false);
        EDGES.due("absent", x.member(1, 3), 0);
        x.setPresent(1, true);
        EDGES.due("back", x.member(1, 3), 1);
    }

    private static void limitInAll() {
        EDGES.sentence("OFFICE", "has led fewer terms than the limit in all");
        TermOffice x = Offices.easy(2);
        x.set(1, 2);
        Offices.appoint(x, 0);
        EDGES.due("the first goes on", x.member(0, 3), 1);
        x.pass(10);
        EDGES.due("one is fewer than two", x.member(0, 3), 1);
        Offices.appoint(x, 1);
        x.pass(10);
        Offices.appoint(x, 0);
        EDGES.due("the second goes on, and counts", x.member(0, 3), 0);
        x.pass(10);
        Offices.appoint(x, 1);
        EDGES.due("two are not fewer, however long ago", x.member(0, 3), 0);
        x.set(1, 3);
        EDGES.due("fewer than three", x.member(0, 3), 1);
        x.set(1, 1);
        EDGES.due("more than one", x.member(0, 3), 0);
    }

    private static void limitInARow() {
        EDGES.sentence("OFFICE", "and the latest terms (the last one and those before it) that this member has "
            + "led without a term of another member between them are fewer than the limit in a row (there are "
            + "none if the latest term of all was led by another member, or there was no term).");
        TermOffice x = Offices.easy(2);
        x.set(2, 1);
        EDGES.due("no term", x.member(0, 3), 1);
        x.set(2, 2);
        Offices.appoint(x, 0);
        EDGES.due("the first goes on", x.member(0, 3), 1);
        x.pass(10);
        EDGES.due("one in a row", x.member(0, 3), 1);
        Offices.appoint(x, 0);
        EDGES.due("the second goes on, and counts", x.member(0, 3), 0);
        x.pass(10);
        EDGES.due("two in a row", x.member(0, 3), 0);
        x.open();
        EDGES.due("an election changes nothing", x.member(0, 3), 0);
        x.nominate(1);
        x.close();
        EDGES.due("another term has begun", x.member(0, 3), 1);
        x.pass(10);
        Offices.appoint(x, 0);
        EDGES.due("those before the other's do not count", x.member(0, 3), 1);
        x.set(2, 1);
        EDGES.due("one is not fewer than one", x.member(0, 3), 0);
        EDGES.due("none is", x.member(1, 3), 1);
    }

    private static void holders() {
        EDGES.sentence("Promise 14", "Returns the leader or the caretaker.");
        EDGES.due("the leader", Offices.ledBy(9, 10).holder(), 9);
        EDGES.due("the caretaker", Offices.afterATermOf(0, 10).holder(), 1);
        EDGES.leavesAll("holder()", () -> Offices.ledBy(0, 2), o -> o.holder());
        EDGES.sentence("Promise 14", "Returns the member; NONE if the office is vacant.");
        EDGES.due("member 0", Offices.ledBy(0, 1).holder(), 0);
        EDGES.due("new", new TermOffice().holder(), NONE);
        EDGES.due("with a member", Offices.easy(1).holder(), NONE);
        EDGES.due("after a term", Offices.afterATermOf(0, 1).holder(), NONE);
    }

    private static TermOffice withDeeds(int count) {
        TermOffice x = Offices.ledBy(0, 3);
        Offices.deeds(x, count);
        return x;
    }

    private static void deeds() {
        EDGES.sentence("Promise 15", "Counts a deed of the present term.");
        TermOffice x = withDeeds(3);
        x.pass(10);
        Offices.appoint(x, 1);
        EDGES.due("the present one's", x.deed(true), 1);
        EDGES.due("not the one's before", x.term(1, 4), 3);
        EDGES.sentence("Promise 15", "This is an act.");
        EDGES.isAct("1", 1, () -> withDeeds(0), o -> o.deed(true));
        EDGES.isAct("-1, which is no error", -1, () -> withDeeds(0), o -> o.deed(false));
        EDGES.isAct("-2, which is no error", -2, () -> withDeeds(-1), o -> o.deed(false));
        EDGES.isAct("-9, which is no error", -9, () -> withDeeds(-8), o -> o.deed(false));
        EDGES.sentence("Promise 15", "`good`: true if the deeds increase by 1, false if they decrease by 1");
        EDGES.due("true", withDeeds(7).deed(true), 8);
        EDGES.due("false", withDeeds(7).deed(false), 6);
        EDGES.due("to 0", withDeeds(-1).deed(true), 0);
        EDGES.sentence("Promise 15", "Returns the deeds");
        EDGES.due("20", withDeeds(19).deed(true), 20);
        EDGES.due("-20", withDeeds(-19).deed(false), -20);
    }

    private static void deedsRefused() {
        EDGES.sentence("Promise 15", "STATE if no leader is in office, or the deeds would be greater than 20 or "
            + "less than -20.");
        EDGES.refused("vacant", STATE, () -> Offices.easy(2), o -> o.deed(true));
        EDGES.refused("no member", STATE, TermOffice::new, o -> o.deed(false));
        EDGES.refused("a caretaker", STATE, () -> Offices.afterATermOf(0, 2), o -> o.deed(true));
        EDGES.refused("vacant after a term", STATE, () -> Offices.afterATermOf(0, 1), o -> o.deed(false));
        EDGES.refused("while an election is open", STATE, () -> Offices.opened(2, 0), o -> o.deed(true));
        EDGES.refused("a 21st good one", STATE, () -> withDeeds(20), o -> o.deed(true));
        EDGES.refused("a 21st bad one", STATE, () -> withDeeds(-20), o -> o.deed(false));
        EDGES.due("a bad one after 20", withDeeds(20).deed(false), 19);
        EDGES.due("a good one after -20", withDeeds(-20).deed(true), -19);
    }

    private static void countOfTerms() {
        EDGES.sentence("Promise 20", "Returns the number of terms that have begun.");
        EDGES.due("none", new TermOffice().terms(), 0);
        EDGES.due("not yet", Offices.opened(2, 0).terms(), 0);
        EDGES.due("one that goes on", Offices.ledBy(0, 2).terms(), 1);
        EDGES.due("one that is over", Offices.afterATermOf(0, 2).terms(), 1);
        EDGES.due("forty", afterTerms(40).terms(), 40);
        EDGES.leavesAll("terms()", () -> Offices.ledBy(0, 2), o -> o.terms());
        EDGES.sentence("Promise 20", "Returns the number of terms.");
        TermOffice x = Offices.ledBy(0, 2);
        x.undo();
        EDGES.due("one that was undone", x.terms(), 0);
        TermOffice y = Offices.opened(2, 0);
        y.set(4, 100);
        y.close();
        EDGES.due("nobody was elected", y.terms(), 0);
    }
}
