/** Promises 6 to 12: open, nominate, cast, close, rounds, tally, ballot. */
public final class ElectionTest {
    private static final Checks CHECKS = new Checks();

    public static void main(String[] args) {
        opening();
        openingTheLast();
        nominating();
        limits();
        limitsThatAreSetLater();
        casting();
        replacingABallot();
        becomingAbsent();
        closingTooEarly();
        quorum();
        noBallots();
        moreThanHalf();
        ballotsThatRunOut();
        fewestBallotsLeave();
        smallerReputationLeaves();
        moreTermsLeave();
        greaterNumberLeaves();
        tenRounds();
        tallies();
        reading();
        CHECKS.end();
    }

    private static void opening() {
        TermOffice x = Offices.easy(2);
        CHECKS.due("open()", x.open(), 1);
        CHECKS.due("open() twice", x.open(), TermOffice.STATE);
        CHECKS.due("open is an act", x.undo(), 4);
        CHECKS.due("open() after undo", x.open(), 1);
        x.nominate(0);
        x.close();
        CHECKS.due("open() with a leader", x.open(), TermOffice.STATE);
        x.pass(10);
        CHECKS.due("open() with a caretaker", x.open(), 2);
    }

    private static void openingTheLast() {
        TermOffice x = Offices.easy(10);
        for (int term = 1; term <= 40; term++) {
            CHECKS.due("open the term " + term, x.open(), term);
            x.nominate(term % 10);
            CHECKS.due("close the term " + term, x.close(), term % 10);
            if (term == 40) {
                CHECKS.due("STATE stands before FULL", x.open(), TermOffice.STATE);
            }
            x.pass(10);
        }
        CHECKS.due("open a 41st", x.open(), TermOffice.FULL);
        CHECKS.due("terms()", x.terms(), 40);
        CHECKS.due("the 40th term's leader", x.term(40, 0), 0);
        CHECKS.due("the 40th term's end", x.term(40, 3), 400);
        CHECKS.due("no 41st", x.term(41, 0), TermOffice.BAD);
        CHECKS.due("led", x.member(9, 1), 4);
    }

    private static void nominating() {
        TermOffice x = Offices.withMembers(3);
        CHECKS.due("not open", x.nominate(0), TermOffice.STATE);
        CHECKS.due("BAD stands before STATE", x.nominate(3), TermOffice.BAD);
        x.open();
        CHECKS.due("nominate(-1)", x.nominate(-1), TermOffice.BAD);
        CHECKS.due("nominate(3)", x.nominate(3), TermOffice.BAD);
        CHECKS.due("nominate(2)", x.nominate(2), 1);
        CHECKS.due("is a candidate", x.member(2, 4), 1);
        CHECKS.due("is none", x.member(0, 4), 0);
        CHECKS.due("nominate(2) twice", x.nominate(2), TermOffice.STATE);
        x.setPresent(1, false);
        CHECKS.due("an absent member", x.nominate(1), TermOffice.LIMIT);
        CHECKS.due("nominate(0)", x.nominate(0), 2);
        CHECKS.due("nominate is an act", x.undo(), 4);
        CHECKS.due("undone", x.member(0, 4), 0);
    }

    private static void limits() {
        TermOffice x = Offices.easy(2);
        x.set(1, 3);
        x.set(2, 2);
        Offices.elapse(x, 0, 10);
        CHECKS.due("led once: can lead", x.member(0, 3), 1);
        Offices.elapse(x, 0, 10);
        CHECKS.due("twice in a row: cannot", x.member(0, 3), 0);
        x.open();
        CHECKS.due("nominate(0)", x.nominate(0), TermOffice.LIMIT);
        x.nominate(1);
        x.close();
        CHECKS.due("another leads: can lead again", x.member(0, 3), 1);
        x.pass(10);
        Offices.elapse(x, 0, 10);
        Offices.elapse(x, 1, 10);
        CHECKS.due("three in all: cannot", x.member(0, 3), 0);
        CHECKS.due("led in all", x.member(0, 1), 3);
        x.set(1, 4);
        CHECKS.due("a greater limit in all", x.member(0, 3), 1);
        x.open();
        CHECKS.due("nominate(0) then", x.nominate(0), 1);
        CHECKS.due("STATE stands before LIMIT", limitOfACandidate(x), TermOffice.STATE);
    }

    private static int limitOfACandidate(TermOffice x) {
        x.set(1, 1);
        return x.nominate(0);
    }

    private static void limitsThatAreSetLater() {
        TermOffice x = Offices.easy(2);
        Offices.elapse(x, 0, 10);
        x.open();
        x.nominate(0);
        x.set(1, 1);
        CHECKS.due("cannot lead any more", x.member(0, 3), 0);
        CHECKS.due("stays a candidate", x.member(0, 4), 1);
        CHECKS.due("can be on a ballot", Offices.cast(x, 1, "0"), 1);
        CHECKS.due("is elected", x.close(), 0);
        CHECKS.due("leads", x.holder(), 0);
    }

    private static void casting() {
        TermOffice x = Offices.withMembers(3);
        CHECKS.due("cast(3)", x.cast(3), TermOffice.BAD);
        CHECKS.due("cast(-1)", x.cast(-1), TermOffice.BAD);
        CHECKS.due("not open", x.cast(0), TermOffice.STATE);
        x.open();
        Offices.nominate(x, 0, 2);
        x.setPresent(1, false);
        CHECKS.due("an absent member", Offices.cast(x, 1, "0"), TermOffice.STATE);
        CHECKS.due("STATE stands before the text's error", Offices.cast(x, 1, "?"), TermOffice.STATE);
        CHECKS.due("cast(0)", Offices.cast(x, 0, "0>2"), 1);
        CHECKS.due("cast(2), for oneself", Offices.cast(x, 2, "2"), 2);
        CHECKS.due("cast is an act", x.undo(), 4);
        CHECKS.due("undone", x.ballot(2, 0), TermOffice.NONE);
        CHECKS.due("the other ballot stays", x.ballot(0, 1), 2);
    }

    private static void replacingABallot() {
        TermOffice x = Offices.withMembers(3);
        x.open();
        Offices.nominate(x, 0, 1, 2);
        CHECKS.due("the first", Offices.cast(x, 0, "0>1>2"), 1);
        CHECKS.due("the second", Offices.cast(x, 0, "2>0"), 1);
        CHECKS.due("its first place", x.ballot(0, 0), 2);
        CHECKS.due("its second place", x.ballot(0, 1), 0);
        CHECKS.due("its third place", x.ballot(0, 2), TermOffice.NONE);
        CHECKS.due("a wrong one", Offices.cast(x, 0, "1>"), -102);
        CHECKS.due("changes nothing", x.ballot(0, 0), 2);
    }

    private static void becomingAbsent() {
        TermOffice x = Offices.withMembers(4);
        x.open();
        Offices.nominate(x, 0, 1, 2);
        Offices.cast(x, 0, "0>1");
        Offices.cast(x, 1, "1");
        Offices.cast(x, 2, "0>1>2");
        Offices.cast(x, 3, "2>1");
        x.setPresent(1, false);
        CHECKS.due("no candidate any more", x.member(1, 4), 0);
        CHECKS.due("the ballot is gone", x.ballot(1, 0), TermOffice.NONE);
        CHECKS.due("removed at the end", x.ballot(0, 1), TermOffice.NONE);
        CHECKS.due("before it all stays", x.ballot(0, 0), 0);
        CHECKS.due("removed in the middle", x.ballot(2, 1), 2);
        CHECKS.due("and shorter", x.ballot(2, 2), TermOffice.NONE);
        x.setPresent(1, true);
        CHECKS.due("back, but no candidate", x.member(1, 4), 0);
        CHECKS.due("back, but no ballot", x.ballot(1, 0), TermOffice.NONE);
        CHECKS.due("the candidates count on", x.nominate(1), 3);
        Offices.cast(x, 3, "1");
        x.setPresent(1, false);
        CHECKS.due("a ballot without candidates is gone", x.ballot(3, 0), TermOffice.NONE);
        CHECKS.due("and does not count", Offices.cast(x, 3, "2"), 3);
    }

    private static void closingTooEarly() {
        TermOffice x = Offices.withMembers(2);
        CHECKS.due("not open", x.close(), TermOffice.STATE);
        x.open();
        CHECKS.due("no candidates", x.close(), TermOffice.STATE);
        x.nominate(0);
        x.setPresent(0, false);
        CHECKS.due("none any more", x.close(), TermOffice.STATE);
        CHECKS.due("it stays open", x.open(), TermOffice.STATE);
    }

    private static void quorum() {
        TermOffice x = Offices.withMembers(4);
        x.open();
        Offices.nominate(x, 0, 1);
        Offices.cast(x, 0, "0");
        CHECKS.due("a quarter is too few", x.close(), TermOffice.NONE);
        CHECKS.due("no rounds", x.rounds(), 0);
        CHECKS.due("its kind", x.event(0, 1), 6);
        CHECKS.due("its member", x.event(0, 2), TermOffice.NONE);
        CHECKS.due("the election has ended", x.close(), TermOffice.STATE);
        CHECKS.due("no candidate is left", x.member(0, 4), 0);
        CHECKS.due("office()", x.office(), 0);
        CHECKS.due("closing is an act", x.undo(), 4);
        CHECKS.due("the candidates are back", x.member(1, 4), 1);
        CHECKS.due("the ballot is back", x.ballot(0, 0), 0);
        CHECKS.due("no event", x.events(), 0);
        Offices.cast(x, 3, "1>0");
        CHECKS.due("a half is enough", x.close(), 0);
        CHECKS.due("no ballot stays for the next", ballotOfTheNext(x), TermOffice.NONE);

        TermOffice y = Offices.withMembers(4);
        y.set(4, 100);
        y.setPresent(3, false);
        y.open();
        y.nominate(2);
        Offices.cast(y, 0, "2");
        Offices.cast(y, 1, "2");
        y.close();
        CHECKS.due("two of three are too few", y.office(), 0);
        y.undo();
        y.set(4, 67);
        CHECKS.due("two of three are less than 67 percent", y.close(), TermOffice.NONE);
        y.undo();
        y.set(4, 66);
        CHECKS.due("two of three are 66 percent", y.close(), 2);
        y.undo();
        y.set(4, 100);
        Offices.cast(y, 2, "2");
        CHECKS.due("all who are present", y.close(), 2);
    }

    private static int ballotOfTheNext(TermOffice x) {
        x.pass(100);
        x.open();
        return x.ballot(0, 0);
    }

    private static void noBallots() {
        TermOffice x = Offices.easy(3);
        x.open();
        Offices.nominate(x, 2, 0, 1);
        CHECKS.due("nobody votes: the smallest number stays", x.close(), 0);
        CHECKS.due("rounds()", x.rounds(), 3);
        CHECKS.due("tally(0, 2)", x.tally(0, 2), 0);
        CHECKS.due("tally(1, 2)", x.tally(1, 2), TermOffice.NONE);
        CHECKS.due("tally(2, 0)", x.tally(2, 0), 0);
    }

    private static void moreThanHalf() {
        TermOffice x = Offices.easy(5);
        x.open();
        Offices.nominate(x, 0, 1, 2);
        Offices.cast(x, 0, "2");
        Offices.cast(x, 1, "2");
        Offices.cast(x, 2, "2");
        Offices.cast(x, 3, "0");
        Offices.cast(x, 4, "1");
        CHECKS.due("three of five", x.close(), 2);
        CHECKS.due("one round", x.rounds(), 1);
        x.undo();
        Offices.cast(x, 2, "1");
        x.setPresent(4, false);
        CHECKS.due("two of four are just half", x.close(), 2);
        CHECKS.due("another round", x.rounds(), 2);
        CHECKS.due("two of three are more", x.tally(1, 2), 2);
        CHECKS.due("of one who stayed", x.tally(1, 0), 1);
        CHECKS.due("of one who left", x.tally(1, 1), TermOffice.NONE);
    }

    private static void ballotsThatRunOut() {
        TermOffice x = Offices.easy(6);
        x.open();
        Offices.nominate(x, 0, 1, 2);
        Offices.cast(x, 0, "0");
        Offices.cast(x, 1, "0");
        Offices.cast(x, 2, "1");
        Offices.cast(x, 3, "1");
        Offices.cast(x, 4, "1");
        Offices.cast(x, 5, "2");
        CHECKS.due("half of six, then more than half of five", x.close(), 1);
        CHECKS.due("two rounds", x.rounds(), 2);
        CHECKS.due("tally(1, 0)", x.tally(1, 0), 2);
        CHECKS.due("tally(1, 1)", x.tally(1, 1), 3);
        CHECKS.due("tally(1, 2)", x.tally(1, 2), TermOffice.NONE);
    }

    private static void fewestBallotsLeave() {
        TermOffice x = Offices.easy(7);
        x.open();
        Offices.nominate(x, 0, 1, 2);
        Offices.cast(x, 0, "0>2");
        Offices.cast(x, 1, "1");
        Offices.cast(x, 2, "1");
        Offices.cast(x, 3, "1");
        Offices.cast(x, 4, "2");
        Offices.cast(x, 5, "2");
        Offices.cast(x, 6, "0>2");
        CHECKS.due("the greater number of equals leaves", x.close(), 1);
        x.undo();
        Offices.cast(x, 6, "2");
        CHECKS.due("the second choice decides", x.close(), 2);
        CHECKS.due("first round, 0", x.tally(0, 0), 1);
        CHECKS.due("first round, 1", x.tally(0, 1), 3);
        CHECKS.due("first round, 2", x.tally(0, 2), 3);
        CHECKS.due("second round, 2", x.tally(1, 2), 4);
    }

    /** Two candidates with a ballot each, after one term of each of them. */
    private static int tie(TermOffice x, int a, int b) {
        x.open();
        Offices.nominate(x, a, b);
        Offices.cast(x, a, String.valueOf(a));
        Offices.cast(x, b, String.valueOf(b));
        return x.close();
    }

    private static void smallerReputationLeaves() {
        TermOffice x = Offices.easy(3);
        Offices.elect(x, 0);
        x.deed(false);
        x.pass(10);
        Offices.elapse(x, 1, 10);
        CHECKS.due("the reputation of 0", x.member(0, 0), 45);
        CHECKS.due("1 wins", tie(x, 0, 1), 1);
        x.undo();
        x.undo();
        x.undo();
        x.clear();
        Offices.cast(x, 0, "0");
        Offices.cast(x, 1, "0");
        CHECKS.due("ballots stand before reputation", x.close(), 0);
    }

    private static void moreTermsLeave() {
        TermOffice x = Offices.easy(3);
        Offices.elapse(x, 0, 10);
        CHECKS.due("equal reputations", x.member(0, 0), x.member(2, 0));
        CHECKS.due("2 has led fewer", tie(x, 0, 2), 2);
        TermOffice z = Offices.easy(3);
        Offices.elapse(z, 2, 10);
        CHECKS.due("0 has led fewer", tie(z, 0, 2), 0);
        TermOffice y = Offices.easy(3);
        Offices.elect(y, 0);
        y.deed(true);
        y.pass(10);
        CHECKS.due("reputation stands before terms", tie(y, 0, 2), 0);
    }

    private static void greaterNumberLeaves() {
        TermOffice x = Offices.easy(3);
        CHECKS.due("1 wins over 2", tie(x, 2, 1), 1);
        CHECKS.due("rounds()", x.rounds(), 2);
        CHECKS.due("tally(0, 2)", x.tally(0, 2), 1);
        CHECKS.due("tally(1, 1)", x.tally(1, 1), 1);
    }

    private static void tenRounds() {
        TermOffice x = Offices.easy(10);
        x.open();
        Offices.nominate(x, 0, 1, 2, 3, 4, 5, 6, 7, 8, 9);
        for (int m = 0; m < 10; m++) {
            Offices.cast(x, m, String.valueOf(m));
        }
        CHECKS.due("the smallest number is left", x.close(), 0);
        CHECKS.due("ten rounds", x.rounds(), 10);
        for (int round = 0; round < 10; round++) {
            for (int m = 0; m < 10; m++) {
                int want = m < 10 - round ? 1 : TermOffice.NONE;
                CHECKS.due("tally(" + round + ", " + m + ")", x.tally(round, m), want);
            }
        }
        CHECKS.due("no eleventh", x.tally(10, 0), TermOffice.BAD);
    }

    private static void tallies() {
        TermOffice x = Offices.easy(3);
        CHECKS.due("before all elections", x.tally(0, 0), TermOffice.BAD);
        Offices.elect(x, 1);
        CHECKS.due("tally(0, 1)", x.tally(0, 1), 3);
        CHECKS.due("tally(0, 0)", x.tally(0, 0), TermOffice.NONE);
        CHECKS.due("tally(0, 3)", x.tally(0, 3), TermOffice.BAD);
        CHECKS.due("tally(0, -1)", x.tally(0, -1), TermOffice.BAD);
        CHECKS.due("tally(-1, 0)", x.tally(-1, 0), TermOffice.BAD);
        CHECKS.due("tally(1, 0)", x.tally(1, 0), TermOffice.BAD);
        x.join(1);
        CHECKS.due("of one who came later", x.tally(0, 3), TermOffice.NONE);
        x.pass(10);
        x.open();
        x.nominate(3);
        CHECKS.due("while the next is open", x.tally(0, 1), 3);
        x.set(4, 100);
        x.close();
        CHECKS.due("no rounds in the next", x.rounds(), 0);
        CHECKS.due("and no tallies", x.tally(0, 1), TermOffice.BAD);
        x.undo();
        CHECKS.due("undone: rounds()", x.rounds(), 1);
        CHECKS.due("undone: tally(0, 1)", x.tally(0, 1), 3);
    }

    private static void reading() {
        TermOffice x = Offices.withMembers(2);
        CHECKS.due("not open", x.ballot(0, 0), TermOffice.STATE);
        CHECKS.due("BAD stands before STATE", x.ballot(2, 0), TermOffice.BAD);
        CHECKS.due("a negative place", x.ballot(0, -1), TermOffice.BAD);
        x.open();
        CHECKS.due("ballot(-1, 0)", x.ballot(-1, 0), TermOffice.BAD);
        CHECKS.due("no ballot", x.ballot(0, 0), TermOffice.NONE);
        x.nominate(1);
        Offices.cast(x, 0, "1");
        CHECKS.due("ballot(0, 0)", x.ballot(0, 0), 1);
        CHECKS.due("ballot(0, 1)", x.ballot(0, 1), TermOffice.NONE);
        CHECKS.due("a great place", x.ballot(0, Integer.MAX_VALUE), TermOffice.NONE);
        CHECKS.due("a small place", x.ballot(0, Integer.MIN_VALUE), TermOffice.BAD);
        x.close();
        CHECKS.due("closed", x.ballot(0, 0), TermOffice.STATE);
    }
}
