/** ELECTION and the promises 6, 7 and 9 to 12, an edge at a time. */
public final class ElectionEdgesTest {
    private static final Edges EDGES = new Edges();
    private static final int BAD = TermOffice.BAD;
    private static final int STATE = TermOffice.STATE;
    private static final int FULL = TermOffice.FULL;
    private static final int LIMIT = TermOffice.LIMIT;
    private static final int NONE = TermOffice.NONE;
    private static final int SMALLEST = Integer.MIN_VALUE;
    private static final int GREATEST = Integer.MAX_VALUE;

    public static void main(String[] args) {
        whenItCanBeOpened();
        candidatesStay();
        presentMembersVote();
        ballotsOfOneOrMore();
        laterBallots();
        becomingAbsent();
        becomingAbsentFromAFullBallot();
        ballotsWithoutCandidates();
        noCandidates();
        theElectionEnds();
        quorum();
        quorumOfThePresent();
        firstStillInTheRace();
        moreThanHalf();
        theOnlyOne();
        fewestBallots();
        smallerReputation();
        moreTerms();
        greaterNumber();
        beginsAtOnce();
        opening();
        openingRefused();
        nominating();
        nominatingRefused();
        closing();
        closingRefused();
        rounds();
        tallies();
        talliesRefused();
        ballots();
        ballotsRefused();
        EDGES.end();
    }

    /** Gives in a ballot for each text, the first one by member 0. */
    private static void castAll(TermOffice x, String... texts) {
        for (int m = 0; m < texts.length; m++) {
            Offices.cast(x, m, texts[m]);
        }
    }

    private static void whenItCanBeOpened() {
        EDGES.sentence("ELECTION",
            "An election can be opened when none is open and the office is not held by a leader.");
        EDGES.due("without members", new TermOffice().open(), 1);
        EDGES.due("vacant", Offices.easy(2).open(), 1);
        EDGES.due("kept by a caretaker", Offices.afterATermOf(0, 2).open(), 2);
        EDGES.due("vacant after a term", Offices.afterATermOf(0, 1).open(), 2);
        EDGES.refused("one is open", STATE, () -> Offices.opened(2, 0), o -> o.open());
        EDGES.refused("a leader", STATE, () -> Offices.ledBy(0, 2), o -> o.open());
        TermOffice x = Offices.ledBy(0, 2);
        x.pass(9);
        EDGES.due("the last unit of the term", x.open(), STATE);
        x.pass(1);
        EDGES.due("the term is over", x.open(), 2);
    }

    private static void candidatesStay() {
        EDGES.sentence("ELECTION", "While it is open, members who can lead can be nominated (they stay "
            + "candidates if they cannot lead any more because a limit was set)");
        TermOffice x = Offices.afterATermOf(0, 2);
        x.open();
        EDGES.due("can lead", x.nominate(0), 1);
        x.set(2, 1);
        EDGES.due("cannot lead any more", x.member(0, 3), 0);
        EDGES.due("stays a candidate", x.member(0, 4), 1);
        EDGES.due("is counted", x.nominate(1), 2);
        EDGES.due("can be on a ballot", Offices.cast(x, 1, "0"), 1);
        EDGES.due("is elected", x.close(), 0);
        EDGES.due("and leads", x.holder(), 0);
        TermOffice y = Offices.afterATermOf(0, 2);
        y.open();
        y.set(2, 1);
        EDGES.due("set before the nomination", y.nominate(0), LIMIT);
        y.set(2, 2);
        EDGES.due("set back", y.nominate(0), 1);
    }

    private static void presentMembersVote() {
        EDGES.sentence("ELECTION", "and present members can give in ballots.");
        TermOffice x = Offices.afterATermOf(0, 4);
        x.set(2, 1);
        x.open();
        x.nominate(1);
        EDGES.due("one who cannot lead", Offices.cast(x, 0, "1"), 1);
        EDGES.due("a candidate", Offices.cast(x, 1, "1"), 2);
        x.setPresent(2, false);
        EDGES.due("an absent member", Offices.cast(x, 2, "1"), STATE);
        x.setPresent(2, true);
        EDGES.due("one who is back", Offices.cast(x, 2, "1"), 3);
        x.join(5);
        EDGES.due("one who has joined", Offices.cast(x, 4, "1"), 4);
    }

    private static void ballotsOfOneOrMore() {
        EDGES.sentence("ELECTION", "A ballot is a list of one or more different candidates (nominated members), "
            + "the first one being the most preferred");
        TermOffice x = Offices.opened(10, 0, 1, 2, 3, 4, 5, 6, 7, 8);
        EDGES.due("none", Offices.cast(x, 0, ""), -100);
        EDGES.due("one", Offices.cast(x, 0, "8"), 1);
        EDGES.due("all", Offices.cast(x, 1, "8>7>6>5>4>3>2>1>0"), 2);
        EDGES.due("the same twice", Offices.cast(x, 2, "8>8"), -102);
        EDGES.due("the same at both ends", Offices.cast(x, 2, "8>7>6>5>4>3>2>1>8"), -116);
        EDGES.due("a member who is not nominated", Offices.cast(x, 2, "9"), -100);
        EDGES.due("the most preferred", x.ballot(1, 0), 8);
        EDGES.due("the least preferred", x.ballot(1, 8), 0);
        EDGES.due("two ballots for 8", x.close(), 8);
        EDGES.due("which count so", x.tally(0, 8), 2);
        EDGES.due("and not for the others", x.tally(0, 0), 0);
    }

    private static void laterBallots() {
        EDGES.sentence("ELECTION", "a later ballot of a member replaces the earlier one.");
        TermOffice x = Offices.opened(3, 0, 1, 2);
        EDGES.due("the earlier", Offices.cast(x, 1, "0>1>2"), 1);
        EDGES.due("the later", Offices.cast(x, 1, "2"), 1);
        EDGES.due("its candidate", x.ballot(1, 0), 2);
        EDGES.due("nothing of the earlier stays", x.ballot(1, 1), NONE);
        EDGES.due("longer again", Offices.cast(x, 1, "1>0"), 1);
        EDGES.due("its second", x.ballot(1, 1), 0);
        EDGES.due("no third", x.ballot(1, 2), NONE);
        EDGES.due("it alone counts", x.close(), 1);
        EDGES.due("for 1", x.tally(0, 1), 1);
        EDGES.due("not for 2", x.tally(0, 2), 0);
    }

    private static void becomingAbsent() {
        EDGES.sentence("ELECTION", "If a member becomes absent, the nomination and the ballot of this member are "
            + "gone, and this member is removed from all ballots");
        TermOffice x = Offices.opened(5, 0, 1, 2);
        castAll(x, "1>0>2", "0>1>2", "0>2>1", "1", "2");
        x.setPresent(1, false);
        EDGES.due("no candidate", x.member(1, 4), 0);
        EDGES.due("no ballot", x.ballot(1, 0), NONE);
        int[][] left = {{0, 2, NONE}, {NONE, NONE, NONE}, {0, 2, NONE}, {NONE, NONE, NONE}, {2, NONE, NONE}};
        for (int m = 0; m < 5; m++) {
            for (int k = 0; k < 3; k++) {
                EDGES.due("ballot(" + m + ", " + k + ")", x.ballot(m, k), left[m][k]);
            }
        }
        x.setPresent(1, true);
        EDGES.due("back, no candidate", x.member(1, 4), 0);
        EDGES.due("back, no ballot", x.ballot(1, 0), NONE);
        EDGES.due("not on a ballot either", x.ballot(3, 0), NONE);
        EDGES.due("a digit of nobody", Offices.cast(x, 1, "1"), -100);
        EDGES.due("can be nominated again", x.nominate(1), 3);
        EDGES.due("and voted for", Offices.cast(x, 1, "1"), 4);
        x.setPresent(3, false);
        EDGES.due("a voter who is no candidate", Offices.cast(x, 1, "2"), 4);
    }

    private static void becomingAbsentFromAFullBallot() {
        EDGES.sentence("ELECTION", "and this member is removed from all ballots");
        for (int gone = 0; gone < 9; gone++) {
            TermOffice x = Offices.opened(10, 0, 1, 2, 3, 4, 5, 6, 7, 8, 9);
            Offices.cast(x, 8, "9>8>7>6>5>4>3>2>1>0");
            Offices.cast(x, 9, "0>1>2>3>4>5>6>7>8>9");
            x.setPresent(gone, false);
            for (int k = 0; k < 9; k++) {
                EDGES.due(gone + " is gone: ballot(9, " + k + ")", x.ballot(9, k), k < gone ? k : k + 1);
            }
            EDGES.due(gone + " is gone: no tenth place", x.ballot(9, 9), NONE);
            EDGES.due("of the voter who is gone", x.ballot(8, 9), NONE);
            EDGES.due("or stays", x.ballot(8, 0), gone == 8 ? NONE : 9);
        }
    }

    private static void ballotsWithoutCandidates() {
        EDGES.sentence("ELECTION", "(a ballot without candidates is gone).");
        TermOffice x = Offices.opened(4, 0, 1);
        castAll(x, "0", "1", "1", "1>0");
        x.set(4, 100);
        x.setPresent(1, false);
        EDGES.due("a ballot for 1 alone", x.ballot(2, 0), NONE);
        EDGES.due("two of three are left", x.close(), NONE);
        x.undo();
        x.set(4, 66);
        EDGES.due("which is 66 percent", x.close(), 0);
        x.undo();
        EDGES.due("a new ballot", Offices.cast(x, 2, "0"), 3);
    }

    private static TermOffice candidateGone() {
        TermOffice x = Offices.opened(2, 0);
        x.setPresent(0, false);
        return x;
    }

    private static void noCandidates() {
        EDGES.sentence("ELECTION", "Closing: if there are no candidates, closing is not possible.");
        EDGES.refused("nobody was nominated", STATE, () -> Offices.opened(2), o -> o.close());
        EDGES.refused("the candidate is gone", STATE, ElectionEdgesTest::candidateGone, o -> o.close());
        TermOffice x = candidateGone();
        x.close();
        EDGES.due("it stays open", x.open(), STATE);
        EDGES.due("one is nominated", x.nominate(1), 1);
        EDGES.due("one is enough", x.close(), 1);
    }

    private static void theElectionEnds() {
        EDGES.sentence("ELECTION", "Otherwise the election ends.");
        TermOffice x = Offices.opened(3, 0, 1);
        castAll(x, "1", "1", "0");
        x.set(4, 100);
        x.setPresent(2, false);
        x.setPresent(2, true);
        EDGES.due("nobody is elected", x.close(), NONE);
        EDGES.due("none is open", x.ballot(0, 0), STATE);
        EDGES.due("no candidates", x.member(0, 4) + x.member(1, 4), 0);
        EDGES.due("nor can it be closed again", x.close(), STATE);
        EDGES.due("another can be opened", x.open(), 1);
        EDGES.due("without candidates", x.close(), STATE);
        EDGES.due("without ballots", x.ballot(0, 0), NONE);
        x.nominate(1);
        EDGES.due("of which there is one then", Offices.cast(x, 1, "1"), 1);
        TermOffice y = Offices.opened(3, 0, 1);
        castAll(y, "1", "1", "0");
        EDGES.due("one is elected", y.close(), 1);
        EDGES.due("no candidate any more", y.member(1, 4), 0);
        y.pass(10);
        y.open();
        EDGES.due("no ballot of the one before", y.ballot(0, 0), NONE);
    }

    private static int closedWith(int quorum, int members, int ballotCount) {
        TermOffice x = Offices.opened(members, 0);
        x.set(4, quorum);
        for (int m = 0; m < ballotCount; m++) {
            Offices.cast(x, m, "0");
        }
        return x.close();
    }

    private static void quorum() {
        EDGES.sentence("ELECTION", "If 100 times the number of ballots is less than the quorum times the number of "
            + "present members, nobody is elected.");
        EDGES.due("0 of 1, 0 percent", closedWith(0, 1, 0), 0);
        EDGES.due("0 of 1, 1 percent", closedWith(1, 1, 0), NONE);
        EDGES.due("1 of 10, 10 percent", closedWith(10, 10, 1), 0);
        EDGES.due("1 of 10, 11 percent", closedWith(11, 10, 1), NONE);
        EDGES.due("1 of 3, 33 percent", closedWith(33, 3, 1), 0);
        EDGES.due("1 of 3, 34 percent", closedWith(34, 3, 1), NONE);
        EDGES.due("6 of 7, 85 percent", closedWith(85, 7, 6), 0);
        EDGES.due("6 of 7, 86 percent", closedWith(86, 7, 6), NONE);
        EDGES.due("9 of 10, 91 percent", closedWith(91, 10, 9), NONE);
        EDGES.due("10 of 10, 100 percent", closedWith(100, 10, 10), 0);
        TermOffice x = Offices.opened(2, 0, 1);
        x.set(4, 1);
        EDGES.due("nobody", x.close(), NONE);
        EDGES.due("the office stays vacant", x.office(), 0);
        EDGES.due("no term", x.terms(), 0);
        EDGES.due("one event", x.events(), 1);
        EDGES.due("of the kind 6", x.event(0, 1), 6);
        EDGES.due("no rounds", x.rounds(), 0);
        EDGES.sentence("ELECTION", "Otherwise rounds are held.");
        x.undo();
        x.set(4, 0);
        EDGES.due("one is elected", x.close(), 0);
        EDGES.due("rounds()", x.rounds(), 2);
    }

    private static void quorumOfThePresent() {
        EDGES.sentence("ELECTION", "the quorum times the number of present members");
        TermOffice x = Offices.opened(4, 0);
        x.set(4, 100);
        castAll(x, "0", "0", "0");
        EDGES.due("three of four", x.close(), NONE);
        x.undo();
        x.setPresent(3, false);
        EDGES.due("three of three present", x.close(), 0);
        x.undo();
        x.setPresent(2, false);
        EDGES.due("two of two, a ballot has gone", x.close(), 0);
        x.undo();
        x.setPresent(3, true);
        EDGES.due("one comes back without a ballot", x.close(), NONE);
        x.undo();
        x.join(5);
        EDGES.due("one joins", x.close(), NONE);
    }

    private static void tallied(TermOffice x, int round, int... votes) {
        for (int m = 0; m < votes.length; m++) {
            EDGES.due("tally(" + round + ", " + m + ")", x.tally(round, m), votes[m]);
        }
    }

    private static void firstStillInTheRace() {
        EDGES.sentence("ELECTION", "In a round, each ballot counts for the first candidate on it who is still in "
            + "the race (for nobody if there is none).");
        TermOffice x = Offices.opened(10, 0, 1, 2, 3);
        castAll(x, "0", "0", "0", "1", "1", "1", "3>2>1", "2>3>0", "2>3>0", "3");
        EDGES.due("elected", x.close(), 0);
        EDGES.due("rounds()", x.rounds(), 3);
        tallied(x, 0, 3, 3, 2, 2, NONE);
        tallied(x, 1, 3, 3, 3, NONE, NONE);
        tallied(x, 2, 5, 4, NONE, NONE, NONE);
    }

    private static void moreThanHalf() {
        EDGES.sentence("ELECTION", "If a candidate has more than half of the ballots that count in this round");
        TermOffice x = Offices.opened(10, 0, 1, 2);
        castAll(x, "2", "2", "2", "2", "2", "0", "0", "0", "1", "1");
        EDGES.due("five of ten", x.close(), 2);
        EDGES.due("are not enough at once", x.rounds(), 2);
        tallied(x, 1, 3, NONE, 5);
        x.undo();
        Offices.cast(x, 9, "2");
        EDGES.due("six of ten", x.close(), 2);
        EDGES.due("are", x.rounds(), 1);
        x.undo();
        x.setPresent(9, false);
        EDGES.due("five of nine", x.close(), 2);
        EDGES.due("are, too", x.rounds(), 1);
        x.undo();
        x.setPresent(8, false);
        x.setPresent(4, false);
        EDGES.due("four of seven", x.close(), 2);
        EDGES.due("are", x.rounds(), 1);
        x.undo();
        x.setPresent(3, false);
        EDGES.due("three of six", x.close(), 0);
        EDGES.due("are not, and the greater number leaves", x.rounds(), 3);
        tallied(x, 1, 3, NONE, 3);
        tallied(x, 2, 3, NONE, NONE);
    }

    private static void theOnlyOne() {
        EDGES.sentence("ELECTION", "or is the only one in the race, this candidate is elected.");
        TermOffice x = Offices.opened(3, 2);
        EDGES.due("without a ballot", x.close(), 2);
        EDGES.due("in one round", x.rounds(), 1);
        tallied(x, 0, NONE, NONE, 0);
        TermOffice y = Offices.opened(10, 0, 1, 2, 3, 4, 5, 6, 7, 8, 9);
        EDGES.due("the last of ten", y.close(), 0);
        EDGES.due("in ten rounds", y.rounds(), 10);
        tallied(y, 9, 0, NONE, NONE, NONE, NONE, NONE, NONE, NONE, NONE, NONE);
        TermOffice z = Offices.opened(4, 0, 1);
        castAll(z, "0", "1");
        EDGES.due("one of two in the last round", z.close(), 0);
        tallied(z, 0, 1, 1, NONE, NONE);
        tallied(z, 1, 1, NONE, NONE, NONE);
    }

    private static void fewestBallots() {
        EDGES.sentence("ELECTION", "Otherwise one candidate leaves the race: the one with the fewest ballots");
        TermOffice x = Offices.opened(9, 0, 1, 2);
        castAll(x, "0>1", "0>1", "1", "1", "1", "2", "2", "2", "2");
        EDGES.due("elected", x.close(), 1);
        tallied(x, 0, 2, 3, 4);
        tallied(x, 1, NONE, 5, 4);
        TermOffice y = Offices.ledBy(0, 4);
        y.deed(true);
        y.pass(10);
        y.open();
        Offices.nominate(y, 0, 1, 2);
        castAll(y, "1", "1", "2", "2");
        EDGES.due("none is fewer than two, whatever the reputation", y.close(), 1);
        tallied(y, 0, 0, 2, 2);
        tallied(y, 1, NONE, 2, 2);
    }

    /** Terms of 0 and 1, of which one has a deed more; both are candidates with a ballot each. */
    private static TermOffice reputations(boolean isFirstBetter) {
        TermOffice x = Offices.ledBy(0, 2);
        Offices.deeds(x, isFirstBetter ? 1 : 0);
        x.pass(10);
        Offices.appoint(x, 1);
        Offices.deeds(x, isFirstBetter ? 0 : 1);
        x.pass(10);
        x.open();
        Offices.nominate(x, 0, 1);
        castAll(x, "0", "1");
        return x;
    }

    private static void smallerReputation() {
        EDGES.sentence("ELECTION", "of several the one with the smaller reputation");
        TermOffice x = reputations(true);
        EDGES.due("1 leaves", x.close(), 0);
        tallied(x, 1, 1, NONE);
        TermOffice y = reputations(false);
        EDGES.due("0 leaves", y.close(), 1);
        tallied(y, 1, NONE, 1);
        TermOffice z = reputations(false);
        Offices.cast(z, 1, "0");
        EDGES.due("the ballots stand before it", z.close(), 0);
        TermOffice w = Offices.afterATermOf(0, 9);
        for (int m = 1; m <= 8; m++) {
            Offices.grade(w, m, 1, m == 8 ? 6 : 5);
        }
        EDGES.due("a reputation just above", w.member(0, 0), 51);
        w.open();
        Offices.nominate(w, 0, 1);
        EDGES.due("51 stays rather than 50, though it has led more", w.close(), 0);
    }

    private static void moreTerms() {
        EDGES.sentence("ELECTION", "of several the one who has led more terms");
        TermOffice x = Offices.afterATermOf(0, 3);
        x.open();
        Offices.nominate(x, 0, 1);
        EDGES.due("0 has led one more", x.close(), 1);
        TermOffice y = Offices.afterATermOf(1, 3);
        y.open();
        Offices.nominate(y, 0, 1);
        EDGES.due("1 has led one more", y.close(), 0);
        TermOffice z = Offices.afterATermOf(0, 3);
        Offices.appoint(z, 0);
        z.pass(10);
        Offices.appoint(z, 1);
        z.pass(10);
        z.open();
        Offices.nominate(z, 0, 1);
        EDGES.due("two are more than one", z.close(), 1);
    }

    private static void greaterNumber() {
        EDGES.sentence("ELECTION", "of several the one with the greater number.");
        TermOffice x = Offices.opened(10, 9, 3, 8);
        EDGES.due("3 is left", x.close(), 3);
        EDGES.due("9 was there first", x.tally(0, 9), 0);
        EDGES.due("and left first", x.tally(1, 9), NONE);
        EDGES.due("8 was there second", x.tally(1, 8), 0);
        EDGES.due("and left then", x.tally(2, 8), NONE);
    }

    private static void beginsAtOnce() {
        EDGES.sentence("ELECTION", "The term of the elected member begins at once.");
        TermOffice x = Offices.easy(2);
        x.pass(3);
        x.open();
        x.nominate(1);
        x.pass(4);
        x.close();
        EDGES.due("its beginning", x.term(1, 1), 7);
        EDGES.due("office()", x.office(), 2);
        EDGES.due("holder()", x.holder(), 1);
        EDGES.due("led", x.member(1, 1), 1);
        EDGES.due("told", x.event(0, 1), 1);
        EDGES.due("at that time", x.event(0, 0), 7);
        EDGES.due("of this member", x.event(0, 2), 1);
        EDGES.due("and nothing more", x.events(), 1);
    }

    private static void opening() {
        EDGES.sentence("Promise 6", "Opens an election.");
        TermOffice x = Offices.easy(2);
        EDGES.due("none is open", x.ballot(0, 0), STATE);
        x.open();
        EDGES.due("one is open", x.ballot(0, 0), NONE);
        EDGES.sentence("Promise 6", "This is an act.");
        EDGES.isAct("open()", 1, () -> Offices.easy(2), o -> o.open());
        EDGES.isAct("open(), a caretaker", 2, () -> Offices.afterATermOf(0, 2), o -> o.open());
        EDGES.sentence("Promise 6", "Returns the number of the term that is to begin");
        EDGES.due("the first", new TermOffice().open(), 1);
        EDGES.due("the third", afterTerms(2).open(), 3);
        EDGES.due("the last", afterTerms(39).open(), 40);
    }

    private static TermOffice afterTerms(int count) {
        TermOffice x = Offices.easy(10);
        for (int i = 0; i < count; i++) {
            Offices.appoint(x, i % 10);
            x.pass(10);
        }
        return x;
    }

    private static TermOffice inTheFortieth() {
        TermOffice x = afterTerms(39);
        Offices.appoint(x, 9);
        return x;
    }

    private static void openingRefused() {
        EDGES.sentence("Promise 6", "STATE if one is open, or a leader is in office");
        EDGES.refused("open already", STATE, () -> Offices.opened(3), o -> o.open());
        EDGES.refused("with candidates", STATE, () -> Offices.opened(3, 0, 2), o -> o.open());
        EDGES.refused("a leader", STATE, () -> Offices.ledBy(2, 3), o -> o.open());
        EDGES.refused("STATE before FULL", STATE, ElectionEdgesTest::inTheFortieth, o -> o.open());
        EDGES.sentence("Promise 6", "FULL if 40 terms have begun.");
        EDGES.due("39 have begun", afterTerms(39).open(), 40);
        EDGES.refused("40 have begun", FULL, () -> afterTerms(40), o -> o.open());
    }

    private static void nominating() {
        EDGES.sentence("Promise 7", "Nominates a member.");
        TermOffice x = Offices.opened(10);
        EDGES.due("no candidate", x.member(9, 4), 0);
        x.nominate(9);
        EDGES.due("a candidate", x.member(9, 4), 1);
        EDGES.due("the others are none", x.member(8, 4), 0);
        EDGES.sentence("Promise 7", "This is an act.");
        EDGES.isAct("nominate(0)", 1, () -> Offices.opened(3), o -> o.nominate(0));
        EDGES.isAct("nominate(2)", 2, () -> Offices.opened(3, 0), o -> o.nominate(2));
        EDGES.sentence("Promise 7", "`member`: a member");
        EDGES.due("the first", Offices.opened(10).nominate(0), 1);
        EDGES.due("the last", Offices.opened(10).nominate(9), 1);
        EDGES.sentence("Promise 7", "Returns the number of candidates");
        TermOffice y = Offices.opened(10);
        for (int m = 0; m < 10; m++) {
            EDGES.due("nominate(" + (9 - m) + ")", y.nominate(9 - m), m + 1);
        }
        y.setPresent(4, false);
        y.setPresent(4, true);
        EDGES.due("one was gone", y.nominate(4), 10);
    }

    private static TermOffice limited(boolean isOpen, boolean isNominated) {
        TermOffice x = Offices.afterATermOf(0, 2);
        if (isOpen) {
            x.open();
        }
        if (isNominated) {
            x.nominate(0);
        }
        x.set(2, 1);
        return x;
    }

    private static TermOffice absentCandidate() {
        TermOffice x = Offices.opened(3, 1);
        x.setPresent(2, false);
        return x;
    }

    private static void nominatingRefused() {
        EDGES.sentence("Promise 7", "BAD if there is no such member");
        int[] wrong = {-1, 3, 10, NONE, SMALLEST, GREATEST};
        for (int m : wrong) {
            EDGES.refused("nominate(" + m + ")", BAD, () -> Offices.opened(3, 0), o -> o.nominate(m));
            EDGES.refused("BAD before STATE", BAD, () -> Offices.easy(3), o -> o.nominate(m));
        }
        EDGES.refused("of ten", BAD, () -> Offices.opened(10), o -> o.nominate(10));
        EDGES.refused("of none", BAD, () -> Offices.opened(0), o -> o.nominate(0));
        EDGES.sentence("Promise 7", "STATE if no election is open, or the member is nominated already");
        EDGES.refused("vacant", STATE, () -> Offices.easy(3), o -> o.nominate(0));
        EDGES.refused("led", STATE, () -> Offices.ledBy(0, 3), o -> o.nominate(1));
        EDGES.refused("nominated already", STATE, () -> Offices.opened(3, 0, 2), o -> o.nominate(2));
        EDGES.refused("not open, before LIMIT", STATE, () -> limited(false, false), o -> o.nominate(0));
        EDGES.refused("nominated, before LIMIT", STATE, () -> limited(true, true), o -> o.nominate(0));
        EDGES.sentence("Promise 7", "LIMIT if the member cannot lead.");
        EDGES.refused("the limit", LIMIT, () -> limited(true, false), o -> o.nominate(0));
        EDGES.due("another can", limited(true, false).nominate(1), 1);
        EDGES.refused("absent", LIMIT, ElectionEdgesTest::absentCandidate, o -> o.nominate(2));
    }

    private static TermOffice voted() {
        TermOffice x = Offices.opened(4, 0, 1, 3);
        castAll(x, "0>1", "1", "3>1", "3");
        x.set(4, 60);
        return x;
    }

    private static TermOffice voteless() {
        TermOffice x = Offices.opened(4, 0, 1, 3);
        x.set(4, 60);
        return x;
    }

    private static void closing() {
        EDGES.sentence("Promise 9", "Closes the election.");
        TermOffice x = voted();
        EDGES.due("elected", x.close(), 3);
        EDGES.due("none is open", x.ballot(0, 0), STATE);
        EDGES.sentence("Promise 9", "This is an act.");
        EDGES.isAct("close()", 3, ElectionEdgesTest::voted, o -> o.close());
        EDGES.isAct("close(), nobody", NONE, ElectionEdgesTest::voteless, o -> o.close());
        EDGES.sentence("Promise 9", "Returns the member who is elected");
        EDGES.due("the first", Offices.opened(10, 0).close(), 0);
        EDGES.due("the last", Offices.opened(10, 9).close(), 9);
        EDGES.sentence("Promise 9", "NONE if nobody is (this is no error)");
        TermOffice y = voteless();
        EDGES.due("nobody", y.close(), NONE);
        EDGES.due("but the election has ended", y.ballot(0, 0), STATE);
        EDGES.due("and this is told", y.events(), 1);
    }

    private static void closingRefused() {
        EDGES.sentence("Promise 9", "STATE if no election is open, or there are no candidates.");
        EDGES.refused("none is open", STATE, () -> Offices.easy(2), o -> o.close());
        EDGES.refused("closed already", STATE, () -> Offices.ledBy(0, 2), o -> o.close());
        EDGES.refused("no candidates", STATE, () -> Offices.opened(2), o -> o.close());
        EDGES.refused("none any more", STATE, ElectionEdgesTest::candidateGone, o -> o.close());
        EDGES.refused("no members", STATE, () -> Offices.opened(0), o -> o.close());
    }

    private static void rounds() {
        EDGES.sentence("Promise 10", "Returns the number of rounds of the latest election that was closed.");
        TermOffice x = voted();
        EDGES.due("not closed yet", x.rounds(), 0);
        x.close();
        EDGES.due("closed", x.rounds(), 2);
        x.pass(10);
        x.open();
        x.nominate(1);
        EDGES.due("another is open", x.rounds(), 2);
        x.close();
        EDGES.due("nobody was elected in it", x.rounds(), 0);
        EDGES.leavesAll("rounds()", ElectionEdgesTest::voted, o -> o.rounds());
        EDGES.sentence("Promise 10", "Returns the number of rounds; 0 if there were none.");
        EDGES.due("no election", new TermOffice().rounds(), 0);
        EDGES.due("one", Offices.ledBy(0, 3).rounds(), 1);
        TermOffice y = voteless();
        y.close();
        EDGES.due("no quorum", y.rounds(), 0);
    }

    private static TermOffice tallied() {
        TermOffice x = voted();
        x.close();
        return x;
    }

    private static void tallies() {
        EDGES.sentence("Promise 11",
            "Returns how many ballots counted for a member in a round of the latest election that was closed.");
        TermOffice x = tallied();
        tallied(x, 0, 1, 1, NONE, 2);
        tallied(x, 1, 1, NONE, NONE, 2);
        EDGES.leavesAll("tally(0, 0)", ElectionEdgesTest::tallied, o -> o.tally(0, 0));
        EDGES.sentence("Promise 11", "`round`: the round, from 0");
        EDGES.due("the first", x.tally(0, 3), 2);
        EDGES.sentence("Promise 11", "`member`: a member");
        EDGES.due("the last", x.tally(0, 3), 2);
        EDGES.sentence("Promise 11", "Returns the number of ballots");
        EDGES.due("0 of one in the race", Offices.ledBy(0, 1).tally(0, 0), 0);
        TermOffice y = Offices.opened(10, 7);
        castAll(y, "7", "7", "7", "7", "7", "7", "7", "7", "7", "7");
        y.close();
        EDGES.due("all of ten", y.tally(0, 7), 10);
        EDGES.sentence("Promise 11", "NONE if the member was not in the race in this round.");
        EDGES.due("no candidate", y.tally(0, 6), NONE);
        x.join(5);
        EDGES.due("one who joined since", x.tally(0, 4), NONE);
        EDGES.due("one who had left the race", x.tally(1, 1), NONE);
        x.setPresent(3, false);
        EDGES.due("one who is absent now was in the race", x.tally(1, 3), 2);
    }

    private static void talliesRefused() {
        EDGES.sentence("Promise 11", "BAD if there is no such round or member");
        int[] noRound = {-1, 2, 10, SMALLEST, GREATEST};
        for (int round : noRound) {
            EDGES.refused("round " + round, BAD, ElectionEdgesTest::tallied, o -> o.tally(round, 0));
            EDGES.refused("before NONE", BAD, ElectionEdgesTest::tallied, o -> o.tally(round, 2));
        }
        int[] noMember = {-1, 4, 10, NONE, SMALLEST, GREATEST};
        for (int m : noMember) {
            EDGES.refused("member " + m, BAD, ElectionEdgesTest::tallied, o -> o.tally(0, m));
        }
        EDGES.due("no election was closed", voted().tally(0, 0), BAD);
        TermOffice x = voteless();
        x.close();
        EDGES.due("no rounds were held", x.tally(0, 0), BAD);
        TermOffice y = Offices.opened(10, 0, 1, 2, 3, 4, 5, 6, 7, 8, 9);
        y.close();
        EDGES.due("the tenth round", y.tally(9, 0), 0);
        EDGES.due("no eleventh", y.tally(10, 0), BAD);
    }

    private static void ballots() {
        EDGES.sentence("Promise 12",
            "Returns the candidate at a place of the ballot of a member in the open election.");
        TermOffice x = voted();
        EDGES.due("ballot(2, 0)", x.ballot(2, 0), 3);
        EDGES.due("ballot(2, 1)", x.ballot(2, 1), 1);
        EDGES.leavesAll("ballot(2, 1)", ElectionEdgesTest::voted, o -> o.ballot(2, 1));
        EDGES.sentence("Promise 12", "`member`: a member");
        EDGES.due("the last", x.ballot(3, 0), 3);
        EDGES.sentence("Promise 12", "`k`: the place, from 0");
        EDGES.due("the first", x.ballot(0, 0), 0);
        EDGES.sentence("Promise 12", "Returns the candidate");
        TermOffice y = Offices.opened(10, 0, 1, 2, 3, 4, 5, 6, 7, 8, 9);
        Offices.cast(y, 9, "1>2>3>4>5>6>7>8>9>0");
        EDGES.due("the last place there can be", y.ballot(9, 9), 0);
        EDGES.sentence("Promise 12", "NONE if there is no ballot of this member, or it is not so long.");
        EDGES.due("the place behind it", y.ballot(9, 10), NONE);
        EDGES.due("a place far behind it", y.ballot(9, GREATEST), NONE);
        EDGES.due("no ballot", y.ballot(8, 0), NONE);
        EDGES.due("no ballot, far behind", y.ballot(8, 100), NONE);
        EDGES.due("not so long", x.ballot(0, 2), NONE);
        x.setPresent(0, false);
        EDGES.due("gone with its member", x.ballot(0, 0), NONE);
    }

    private static void ballotsRefused() {
        EDGES.sentence("Promise 12", "BAD if there is no such member, or k is negative");
        int[] noMember = {-1, 4, 10, NONE, SMALLEST, GREATEST};
        for (int m : noMember) {
            EDGES.refused("member " + m, BAD, ElectionEdgesTest::voted, o -> o.ballot(m, 0));
            EDGES.refused("BAD before STATE", BAD, () -> Offices.easy(4), o -> o.ballot(m, 0));
        }
        int[] noPlace = {-1, SMALLEST};
        for (int k : noPlace) {
            EDGES.refused("place " + k, BAD, ElectionEdgesTest::voted, o -> o.ballot(0, k));
            EDGES.refused("BAD before STATE", BAD, () -> Offices.easy(4), o -> o.ballot(0, k));
            EDGES.refused("BAD before NONE", BAD, ElectionEdgesTest::voteless, o -> o.ballot(0, k));
        }
        EDGES.sentence("Promise 12", "STATE if no election is open");
        EDGES.refused("none yet", STATE, () -> Offices.easy(4), o -> o.ballot(0, 0));
        EDGES.refused("closed", STATE, ElectionEdgesTest::tallied, o -> o.ballot(0, 0));
        EDGES.refused("before NONE", STATE, ElectionEdgesTest::tallied, o -> o.ballot(0, 100));
    }
}
