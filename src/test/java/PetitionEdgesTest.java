/** PETITION and promise 16, an edge at a time. */
public final class PetitionEdgesTest {
    private static final Edges EDGES = new Edges();
    private static final int BAD = TermOffice.BAD;
    private static final int STATE = TermOffice.STATE;
    private static final int NONE = TermOffice.NONE;
    private static final int SMALLEST = Integer.MIN_VALUE;
    private static final int GREATEST = Integer.MAX_VALUE;

    public static void main(String[] args) {
        whoCanSign();
        takingBack();
        countsWhilePresent();
        atLeastTheShare();
        atLeastOne();
        recalledAtOnce();
        lookedAtWhenSigned();
        lookedAtWhenAbsent();
        lookedAtWhenPresent();
        lookedAtWhenOneJoins();
        lookedAtWhenTheShareIsSet();
        notLookedAtOtherwise();
        signaturesGo();
        signing();
        countOfSignatures();
        signingNobody();
        signingRefused();
        EDGES.end();
    }

    /** Member 0 leads; the members named have signed. */
    private static TermOffice signed(int share, int members, int... signers) {
        TermOffice x = Offices.easy(members);
        x.set(3, share);
        Offices.appoint(x, 0);
        for (int m : signers) {
            x.sign(m, true);
        }
        return x;
    }

    private static void isRecalled(TermOffice x, String what) {
        EDGES.due(what + ": recalled", x.term(x.terms(), 5), 1);
        EDGES.due(what + ": office()", x.office(), 1);
    }

    private static void isLed(TermOffice x, String what) {
        EDGES.due(what + ": not over", x.term(x.terms(), 3), NONE);
        EDGES.due(what + ": office()", x.office(), 2);
        EDGES.due(what + ": holder()", x.holder(), 0);
    }

    private static void whoCanSign() {
        EDGES.sentence("PETITION",
            "While a leader is in office, present members other than the leader can sign for a recall, each once");
        TermOffice x = signed(100, 10);
        for (int m = 1; m < 9; m++) {
            EDGES.due("sign(" + m + ", true)", x.sign(m, true), m);
            EDGES.due("once", x.sign(m, true), STATE);
            EDGES.due("has signed", x.member(m, 5), 1);
        }
        EDGES.due("the leader", x.sign(0, true), STATE);
        EDGES.due("has not", x.member(0, 5), 0);
        x.setPresent(9, false);
        isRecalled(x, "the last one leaves");
        EDGES.due("a caretaker is in office", x.sign(2, true), STATE);
        TermOffice y = signed(100, 4);
        y.join(5);
        EDGES.due("one who joined during the term", y.sign(4, true), 1);
        y.setPresent(1, false);
        EDGES.due("one who is absent", y.sign(1, true), STATE);
        y.setPresent(1, true);
        EDGES.due("one who is back", y.sign(1, true), 2);
    }

    private static void takingBack() {
        EDGES.sentence("PETITION", "a signature can be taken back (then the member can sign again).");
        TermOffice x = signed(100, 4, 1, 2);
        EDGES.due("taken back", x.sign(1, false), 1);
        EDGES.due("not twice", x.sign(1, false), STATE);
        EDGES.due("1 has not signed", x.member(1, 5), 0);
        EDGES.due("2 has", x.member(2, 5), 1);
        EDGES.due("the third is one of two", x.sign(3, true), 2);
        isLed(x, "two of three");
        EDGES.due("signed again, all of three", x.sign(1, true), 0);
        isRecalled(x, "three of three");
        TermOffice y = signed(100, 4, 1);
        EDGES.due("the only one", y.sign(1, false), 0);
        isLed(y, "no signature");
    }

    private static void countsWhilePresent() {
        EDGES.sentence("PETITION", "A signature counts as long as the member is present.");
        TermOffice x = signed(60, 6, 1, 2);
        x.setPresent(1, false);
        EDGES.due("signed, but absent", x.member(1, 5), 1);
        EDGES.due("one counts, and a new one", x.sign(3, true), 2);
        isLed(x, "two of four");
        EDGES.due("takes back", x.sign(3, false), 1);
        x.setPresent(1, true);
        EDGES.due("signed still", x.member(1, 5), 1);
        EDGES.due("once", x.sign(1, true), STATE);
        EDGES.due("counts again: three of five", x.sign(3, true), 0);
        isRecalled(x, "60 percent");
    }

    /** Whether a term is recalled by so many signatures of so many others. */
    private static void share(int percent, int others, int signatures, boolean recalled) {
        TermOffice x = signed(percent, others + 1);
        int answer = 0;
        for (int m = 1; m <= signatures; m++) {
            answer = x.sign(m, true);
        }
        String what = signatures + " of " + others + " for " + percent + " percent";
        EDGES.due(what, answer, recalled ? 0 : signatures);
        EDGES.due(what + ": recalled", x.term(1, 5), recalled ? 1 : 0);
        EDGES.due(what + ": office()", x.office(), recalled ? 1 : 2);
    }

    private static void atLeastTheShare() {
        EDGES.sentence("PETITION", "When 100 times the number of signatures that count is at least the share "
            + "times the number of present members other than the leader");
        share(1, 9, 1, true);
        share(11, 9, 1, true);
        share(12, 9, 1, false);
        share(25, 4, 1, true);
        share(26, 4, 1, false);
        share(33, 3, 1, true);
        share(34, 3, 1, false);
        share(50, 4, 2, true);
        share(51, 4, 2, false);
        share(50, 2, 1, true);
        share(51, 2, 1, false);
        share(66, 3, 2, true);
        share(67, 3, 2, false);
        share(88, 9, 8, true);
        share(89, 9, 8, false);
        share(100, 9, 9, true);
        share(100, 9, 8, false);
        share(100, 1, 1, true);
    }

    private static void atLeastOne() {
        EDGES.sentence("PETITION", "and there is at least one signature that counts");
        TermOffice x = signed(1, 2);
        isLed(x, "none of one");
        x.setPresent(1, false);
        isLed(x, "none of none");
        x.set(3, 100);
        isLed(x, "none of none, 100 percent");
        x.setPresent(1, true);
        isLed(x, "none of one, 100 percent");
        TermOffice y = signed(100, 3, 1);
        y.setPresent(1, false);
        isLed(y, "one that does not count");
        y.setPresent(2, false);
        isLed(y, "one that does not count, of none");
        y.set(3, 1);
        isLed(y, "nor for one percent");
        y.setPresent(1, true);
        isRecalled(y, "it counts");
        TermOffice z = Offices.ledBy(0, 1);
        z.set(3, 1);
        isLed(z, "a leader alone");
    }

    private static void recalledAtOnce() {
        EDGES.sentence("PETITION", "the term is recalled at once.");
        TermOffice x = signed(50, 3);
        x.pass(4);
        EDGES.due("0, for it is recalled", x.sign(2, true), 0);
        EDGES.due("over now", x.term(1, 3), 4);
        EDGES.due("its planned end", x.term(1, 2), 10);
        EDGES.due("recalled", x.term(1, 5), 1);
        EDGES.due("two events", x.events(), 3);
        EDGES.due("the recall is told first", x.event(1, 1), 3);
        EDGES.due("of the leader", x.event(1, 2), 0);
        EDGES.due("at this time", x.event(1, 0), 4);
        EDGES.due("then the caretaker", x.event(0, 1), 5);
        EDGES.due("holder()", x.holder(), 1);
        EDGES.due("the score falls", x.term(1, 7), 25);
        x.pass(6);
        EDGES.due("its planned end is no event", x.events(), 3);
    }

    private static void lookedAtWhenSigned() {
        EDGES.sentence("PETITION", "(This is looked at when a signature is given");
        TermOffice x = signed(50, 5, 1);
        isLed(x, "one of four");
        x.sign(2, true);
        isRecalled(x, "two of four");
    }

    private static void lookedAtWhenAbsent() {
        EDGES.sentence("PETITION", "when a member becomes absent or present");
        TermOffice x = signed(50, 4, 1);
        isLed(x, "one of three");
        EDGES.due("2 becomes absent", x.setPresent(2, false), 1);
        isRecalled(x, "one of two");
        TermOffice y = signed(50, 4, 1);
        y.setPresent(1, false);
        isLed(y, "the one who signed becomes absent");
        TermOffice z = signed(50, 4, 1);
        z.setPresent(0, false);
        EDGES.due("the leader becomes absent: not recalled", z.term(1, 5), 0);
        EDGES.due("but absent", z.event(1, 1), 4);
        EDGES.due("one caretaker", z.events(), 3);
    }

    private static void lookedAtWhenPresent() {
        EDGES.sentence("PETITION", "when a member becomes absent or present");
        TermOffice x = signed(50, 4, 1);
        x.setPresent(1, false);
        x.setPresent(2, false);
        isLed(x, "none of one");
        EDGES.due("1 becomes present", x.setPresent(1, true), 0);
        isRecalled(x, "one of two");
        TermOffice y = signed(50, 4, 1);
        y.setPresent(1, false);
        y.setPresent(1, true);
        isLed(y, "one of three");
    }

    private static void lookedAtWhenOneJoins() {
        EDGES.sentence("PETITION", "when a member joins");
        TermOffice x = signed(34, 4, 1);
        EDGES.due("one joins", x.join(5), 4);
        isLed(x, "one of three, then of four");
        x.join(6);
        isLed(x, "one of five");
        EDGES.due("two of five", x.sign(5, true), 0);
        isRecalled(x, "those who joined are counted");
    }

    private static void lookedAtWhenTheShareIsSet() {
        EDGES.sentence("PETITION", "and when the share is set.)");
        TermOffice x = signed(50, 4, 1);
        EDGES.due("34 percent", x.set(3, 34), 50);
        isLed(x, "one of three is less");
        EDGES.due("a value that is refused", x.set(3, 0), BAD);
        isLed(x, "a refused share");
        EDGES.due("33 percent", x.set(3, 33), 34);
        isRecalled(x, "one of three is enough");
        x.undo();
        isLed(x, "undone");
        EDGES.due("undone: the share", x.set(3, 1), 34);
        isRecalled(x, "1 percent");
    }

    private static void notLookedAtOtherwise() {
        EDGES.sentence("PETITION", "While a leader is in office");
        TermOffice x = Offices.afterATermOf(0, 3);
        x.set(3, 1);
        x.setPresent(2, false);
        x.setPresent(2, true);
        x.join(1);
        EDGES.due("a caretaker is not recalled", x.events(), 3);
        EDGES.due("and stays", x.holder(), 1);
        TermOffice y = signed(50, 4, 1);
        for (int s = 0; s < 6; s++) {
            if (s != 3) {
                y.set(s, 10 - (s == 1 || s == 2 ? 1 : 0));
            }
        }
        y.deed(true);
        y.pass(1);
        y.sign(1, false);
        y.sign(1, true);
        isLed(y, "other calls");
    }

    private static void noSignatures(TermOffice x, String what, int members) {
        for (int m = 0; m < members; m++) {
            EDGES.due(what + ": member(" + m + ", 5)", x.member(m, 5), 0);
        }
    }

    private static void signaturesGo() {
        EDGES.sentence("PETITION", "When a term is over, all signatures are gone.");
        TermOffice x = signed(100, 5, 1, 2);
        x.setPresent(2, false);
        x.pass(10);
        noSignatures(x, "over as planned", 5);
        TermOffice y = signed(100, 5, 1, 2);
        y.setPresent(2, false);
        y.setPresent(0, false);
        noSignatures(y, "the leader is absent", 5);
        TermOffice z = signed(50, 5, 1, 2);
        noSignatures(z, "recalled", 5);
        z.undo();
        EDGES.due("undone: the first is back", z.member(1, 5), 1);
        x.setPresent(2, true);
        Offices.appoint(x, 3);
        EDGES.due("the next petition begins at 1", x.sign(4, true), 1);
        EDGES.due("one who signed before can sign anew", x.sign(1, true), 2);
        EDGES.due("the leader before can sign", x.sign(0, true), 3);
    }

    private static void signing() {
        EDGES.sentence("Promise 16", "Signs for a recall, or takes a signature back.");
        TermOffice x = signed(100, 4);
        x.sign(2, true);
        EDGES.due("signed", x.member(2, 5), 1);
        EDGES.due("not the others", x.member(1, 5) + x.member(3, 5), 0);
        x.sign(2, false);
        EDGES.due("taken back", x.member(2, 5), 0);
        EDGES.sentence("Promise 16", "This is an act.");
        EDGES.isAct("sign(2, true)", 1, () -> signed(100, 4), o -> o.sign(2, true));
        EDGES.isAct("sign(2, false)", 0, () -> signed(100, 4, 2), o -> o.sign(2, false));
        EDGES.isAct("sign(3, true), recalled", 0, () -> signed(50, 4, 2), o -> o.sign(3, true));
        EDGES.sentence("Promise 16", "`member`: a member");
        EDGES.due("the first", Offices.ledBy(9, 10).sign(0, true), 1);
        EDGES.due("the last", Offices.ledBy(0, 10).sign(9, true), 1);
        EDGES.sentence("Promise 16", "`on`: true to sign");
        EDGES.due("true", signed(100, 4).sign(1, true), 1);
        EDGES.due("false", signed(100, 4).sign(1, false), STATE);
    }

    private static void countOfSignatures() {
        EDGES.sentence("Promise 16",
            "Returns the number of signatures that count (0 if the term is recalled by this)");
        TermOffice x = signed(100, 10);
        for (int m = 1; m <= 8; m++) {
            EDGES.due("sign", x.sign(m, true), m);
        }
        x.setPresent(4, false);
        EDGES.due("one does not count", x.sign(8, false), 6);
        x.setPresent(4, true);
        EDGES.due("it counts again", x.sign(7, false), 6);
        x.sign(7, true);
        x.sign(8, true);
        EDGES.due("recalled by this", x.sign(9, true), 0);
        EDGES.due("recalled", x.term(1, 5), 1);
    }

    private static void signingNobody() {
        EDGES.sentence("Promise 16", "BAD if there is no such member");
        int[] wrong = {-1, 4, 10, NONE, SMALLEST, GREATEST};
        for (int m : wrong) {
            EDGES.refused("sign(" + m + ", true)", BAD, () -> signed(100, 4, 1), o -> o.sign(m, true));
            EDGES.refused("sign(" + m + ", false)", BAD, () -> signed(100, 4, 1), o -> o.sign(m, false));
            EDGES.refused("BAD before STATE", BAD, () -> Offices.easy(4), o -> o.sign(m, true));
        }
        EDGES.refused("of ten", BAD, () -> Offices.ledBy(0, 10), o -> o.sign(10, true));
    }

    private static TermOffice absentSigner() {
        TermOffice x = signed(100, 5, 1);
        x.setPresent(1, false);
        x.setPresent(2, false);
        return x;
    }

    private static void signingRefused() {
        EDGES.sentence("Promise 16", "STATE if no leader is in office, the member is absent or the leader, or the "
            + "member has signed already (on), or has not (not on).");
        EDGES.refused("vacant", STATE, () -> Offices.easy(3), o -> o.sign(1, true));
        EDGES.refused("vacant, off", STATE, () -> Offices.easy(3), o -> o.sign(1, false));
        EDGES.refused("an election", STATE, () -> Offices.opened(3, 0), o -> o.sign(1, true));
        EDGES.refused("a caretaker", STATE, () -> Offices.afterATermOf(0, 3), o -> o.sign(2, true));
        EDGES.refused("recalled just now", STATE, () -> signed(50, 3, 1), o -> o.sign(2, true));
        EDGES.refused("absent", STATE, PetitionEdgesTest::absentSigner, o -> o.sign(2, true));
        EDGES.refused("absent, signed", STATE, PetitionEdgesTest::absentSigner, o -> o.sign(1, true));
        EDGES.refused("absent, off", STATE, PetitionEdgesTest::absentSigner, o -> o.sign(1, false));
        EDGES.refused("the leader", STATE, () -> signed(100, 4, 1), o -> o.sign(0, true));
        EDGES.refused("the leader, off", STATE, () -> signed(100, 4, 1), o -> o.sign(0, false));
        EDGES.refused("signed already", STATE, () -> signed(100, 4, 1), o -> o.sign(1, true));
        EDGES.refused("has not signed", STATE, () -> signed(100, 4, 1), o -> o.sign(2, false));
    }
}
