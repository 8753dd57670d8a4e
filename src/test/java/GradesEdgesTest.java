/** GRADES and the promises 17 to 19 and 21, an edge at a time. */
public final class GradesEdgesTest {
    private static final Edges EDGES = new Edges();
    private static final int BAD = TermOffice.BAD;
    private static final int STATE = TermOffice.STATE;
    private static final int FORGED = TermOffice.FORGED;
    private static final int NONE = TermOffice.NONE;
    private static final int SMALLEST = Integer.MIN_VALUE;
    private static final int GREATEST = Integer.MAX_VALUE;

    public static void main(String[] args) {
        aTermThatIsOver();
        whoWasPresent();
        fiftyUnits();
        zeroToTen();
        laterGrades();
        gradesOfNeighbours();
        codes();
        codesRoundTheModulus();
        scoresOfGrades();
        scoresOfDeedsAndRecalls();
        atLeastZero();
        atMostHundred();
        reputations();
        reputationsRoundedDown();
        noReputationYet();
        grading();
        gradingNothing();
        gradingNotNow();
        gradingForged();
        termNumbers();
        termNumbersRefused();
        points();
        pointsRefused();
        memberNumbers();
        memberNumbersRefused();
        EDGES.end();
    }

    /** Member 0 has led term 1 of 10 units, which has just been over. */
    private static TermOffice over(int members) {
        return Offices.afterATermOf(0, members);
    }

    private static void aTermThatIsOver() {
        EDGES.sentence("GRADES", "A term that is over can be graded");
        TermOffice x = Offices.ledBy(0, 4);
        x.pass(9);
        EDGES.due("one unit too early", Offices.grade(x, 1, 1, 5), STATE);
        x.pass(1);
        EDGES.due("over", Offices.grade(x, 1, 1, 5), 1);
        TermOffice y = Offices.ledBy(0, 4);
        y.sign(1, true);
        y.sign(2, true);
        EDGES.due("recalled", Offices.grade(y, 1, 1, 5), 1);
        TermOffice z = Offices.ledBy(0, 4);
        z.setPresent(0, false);
        EDGES.due("the leader is absent", Offices.grade(z, 1, 1, 5), 1);
        Offices.appoint(z, 1);
        EDGES.due("while the next goes on", Offices.grade(z, 2, 1, 5), 2);
        EDGES.due("which is not over", Offices.grade(z, 2, 2, 5), STATE);
    }

    private static void whoWasPresent() {
        EDGES.sentence("GRADES", "by the members who were present at its beginning (present now or not), other "
            + "than its leader");
        TermOffice x = Offices.easy(5);
        x.setPresent(3, false);
        Offices.appoint(x, 0);
        x.setPresent(3, true);
        x.setPresent(2, false);
        x.join(Offices.keyOf(5));
        x.pass(10);
        EDGES.due("present then and now", Offices.grade(x, 1, 1, 5), 1);
        EDGES.due("present then, absent now", Offices.grade(x, 2, 1, 5), 2);
        EDGES.due("absent then, present now", Offices.grade(x, 3, 1, 5), STATE);
        EDGES.due("joined since", Offices.grade(x, 5, 1, 5), STATE);
        EDGES.due("its leader", Offices.grade(x, 0, 1, 5), STATE);
        Offices.appoint(x, 1);
        x.pass(10);
        EDGES.due("the leader of another term", Offices.grade(x, 0, 2, 5), 1);
        EDGES.due("not its leader", Offices.grade(x, 1, 2, 5), STATE);
        EDGES.due("absent at the beginning of this one", Offices.grade(x, 2, 2, 5), STATE);
        EDGES.due("present at the beginning of this one", Offices.grade(x, 3, 2, 5), 2);
        EDGES.due("so is who joined before it", Offices.grade(x, 5, 2, 5), 3);
    }

    private static void fiftyUnits() {
        EDGES.sentence("GRADES", "until 50 units of time after it was over (included)");
        TermOffice x = over(4);
        EDGES.due("at once", Offices.grade(x, 1, 1, 5), 1);
        x.pass(50);
        EDGES.due("50 units after", Offices.grade(x, 2, 1, 5), 2);
        EDGES.due("a later grade, too", Offices.grade(x, 1, 1, 6), 2);
        x.pass(1);
        EDGES.due("51 units after", Offices.grade(x, 3, 1, 5), STATE);
        EDGES.due("nor a later grade", Offices.grade(x, 1, 1, 7), STATE);
        EDGES.due("the grade stays", x.points(1, 1), 6);
        x.undo();
        EDGES.due("back in time", Offices.grade(x, 3, 1, 5), 3);
        TermOffice y = Offices.ledBy(0, 4);
        y.pass(1);
        y.setPresent(0, false);
        y.pass(50);
        EDGES.due("from when it was over", Offices.grade(y, 1, 1, 5), 1);
        y.pass(1);
        EDGES.due("not from its planned end", Offices.grade(y, 2, 1, 5), STATE);
        TermOffice z = Offices.ledBy(0, 4);
        z.pass(60);
        EDGES.due("over in the midst of a pass: 50 units ago", Offices.grade(z, 1, 1, 5), 1);
        z.undo();
        z.undo();
        z.pass(61);
        EDGES.due("51 units ago", Offices.grade(z, 1, 1, 5), STATE);
    }

    private static void zeroToTen() {
        EDGES.sentence("GRADES", "with 0 to 10 points.");
        TermOffice x = over(4);
        EDGES.due("0", Offices.grade(x, 1, 1, 0), 1);
        EDGES.due("0 is a grade", x.points(1, 1), 0);
        EDGES.due("and the score", x.term(1, 7), 0);
        EDGES.due("10", Offices.grade(x, 2, 1, 10), 2);
        EDGES.due("points(2, 1)", x.points(2, 1), 10);
        EDGES.due("-1", Offices.grade(x, 3, 1, -1), BAD);
        EDGES.due("11", Offices.grade(x, 3, 1, 11), BAD);
        EDGES.due("two grades", x.term(1, 6), 2);
    }

    private static void laterGrades() {
        EDGES.sentence("GRADES", "A later grade of a member for the same term replaces the earlier one.");
        TermOffice x = over(4);
        Offices.grade(x, 1, 1, 10);
        EDGES.due("later", Offices.grade(x, 1, 1, 0), 1);
        EDGES.due("points(1, 1)", x.points(1, 1), 0);
        EDGES.due("the score", x.term(1, 7), 0);
        EDGES.due("one grade", x.term(1, 6), 1);
        EDGES.due("the same once more", Offices.grade(x, 1, 1, 0), 1);
        Offices.grade(x, 2, 1, 7);
        EDGES.due("of the one", Offices.grade(x, 1, 1, 4), 2);
        EDGES.due("not of the other", x.points(2, 1), 7);
        EDGES.due("the score of 4 and 7", x.term(1, 7), 55);
        Offices.appoint(x, 3);
        x.pass(10);
        EDGES.due("another term's", Offices.grade(x, 1, 2, 9), 1);
        EDGES.due("is another grade", x.points(1, 1), 4);
    }

    /** The first and the last member's grades, next to other terms' in any row of grades. */
    private static void gradesOfNeighbours() {
        EDGES.sentence("GRADES", "A later grade of a member for the same term");
        TermOffice x = Offices.easy(10);
        for (int term = 1; term <= 4; term++) {
            Offices.appoint(x, 4);
            x.pass(10);
            EDGES.due("none yet of 0", x.points(0, term), NONE);
            EDGES.due("none yet of 9", x.points(9, term), NONE);
            EDGES.due("0 grades " + term, Offices.grade(x, 0, term, term), 1);
            EDGES.due("9 grades " + term, Offices.grade(x, 9, term, term + 5), 2);
        }
        for (int term = 1; term <= 4; term++) {
            EDGES.due("points(0, " + term + ")", x.points(0, term), term);
            EDGES.due("points(9, " + term + ")", x.points(9, term), term + 5);
            EDGES.due("term(" + term + ", 6)", x.term(term, 6), 2);
        }
    }

    private static void codes() {
        EDGES.sentence("GRADES", "A grade has a code, which must be (31 * term + 17 * member + 7 * points + key of "
            + "the member) mod 997; otherwise the grade is forged.");
        TermOffice x = over(3);
        EDGES.due("31 + 17 + 35 + 107", x.grade(1, 1, 5, 190), 1);
        EDGES.due("one more", x.grade(1, 1, 5, 191), FORGED);
        EDGES.due("one less", x.grade(1, 1, 5, 189), FORGED);
        EDGES.due("7 for one point", x.grade(1, 1, 6, 197), 1);
        EDGES.due("17 for one member, 100 for the key", x.grade(2, 1, 6, 314), 2);
        Offices.appoint(x, 2);
        x.pass(10);
        EDGES.due("31 for one term", x.grade(1, 2, 6, 228), 1);
        EDGES.due("member 0: 62 + 0 + 0 + 7", x.grade(0, 2, 0, 69), 2);
        EDGES.due("not the other term's", x.grade(1, 2, 6, 197), FORGED);
    }

    private static void codesRoundTheModulus() {
        EDGES.sentence("GRADES", "(31 * term + 17 * member + 7 * points + key of the member) mod 997");
        TermOffice x = Offices.easy(1);
        x.join(948);
        x.join(931);
        x.join(996);
        Offices.appoint(x, 0);
        x.pass(10);
        EDGES.due("31 + 17 + 948 is 996", x.grade(1, 1, 0, 996), 1);
        EDGES.due("996 and 7 is 6", x.grade(1, 1, 1, 6), 1);
        EDGES.due("not 1003", x.grade(1, 1, 1, 1003), FORGED);
        EDGES.due("nor -991", x.grade(1, 1, 1, -991), FORGED);
        EDGES.due("31 + 34 + 931 + 7 is 6", x.grade(2, 1, 1, 6), 2);
        EDGES.due("31 + 51 + 996 + 70 is 151", x.grade(3, 1, 10, 151), 3);
        TermOffice y = Offices.easy(1);
        y.join(949);
        Offices.appoint(y, 0);
        y.pass(10);
        EDGES.due("997 is 0", y.grade(1, 1, 0, 0), 1);
        EDGES.due("not 997", y.grade(1, 1, 0, 997), FORGED);
        EDGES.due("nor -997", y.grade(1, 1, 0, -997), FORGED);
        EDGES.due("far around it", y.grade(1, 1, 0, 997 * 2154000), FORGED);
        TermOffice z = Offices.easy(9);
        z.join(996);
        for (int i = 0; i < 40; i++) {
            Offices.appoint(z, i % 8);
            z.pass(10);
        }
        EDGES.due("1240 + 153 + 70 + 996 - 2 * 997", z.grade(9, 40, 10, 465), 1);
        EDGES.due("not once 997", z.grade(9, 40, 10, 1462), FORGED);
    }

    /** The score of a term with these grades, given by the members 1 and on. */
    private static int scoreOf(int... grades) {
        TermOffice x = over(10);
        for (int i = 0; i < grades.length; i++) {
            Offices.grade(x, i + 1, 1, grades[i]);
        }
        return x.term(1, 7);
    }

    private static void scoresOfGrades() {
        EDGES.sentence("GRADES", "The score of a term that is over is 10 times the sum of its points, divided by "
            + "the number of its grades, rounded down (50 without grades)");
        EDGES.due("not over", Offices.ledBy(0, 3).term(1, 7), NONE);
        EDGES.due("without grades", scoreOf(), 50);
        EDGES.due("0", scoreOf(0), 0);
        EDGES.due("10", scoreOf(10), 100);
        EDGES.due("7 and 8", scoreOf(7, 8), 75);
        EDGES.due("200 / 3 is 66", scoreOf(7, 7, 6), 66);
        EDGES.due("10 / 3 is 3", scoreOf(1, 0, 0), 3);
        EDGES.due("10 / 9 is 1", scoreOf(1, 0, 0, 0, 0, 0, 0, 0, 0), 1);
        EDGES.due("890 / 9 is 98", scoreOf(10, 10, 10, 10, 10, 10, 10, 10, 9), 98);
        EDGES.due("of nine", scoreOf(10, 10, 10, 10, 10, 10, 10, 10, 10), 100);
    }

    /** The score of a term with so many deeds, one grade (if not negative), recalled or not. */
    private static int scoreWith(int deeds, int grade, boolean recalled) {
        TermOffice x = Offices.ledBy(0, 3);
        Offices.deeds(x, deeds);
        if (recalled) {
            x.sign(1, true);
        } else {
            x.pass(10);
        }
        if (grade >= 0) {
            Offices.grade(x, 1, 1, grade);
        }
        return x.term(1, 7);
    }

    private static void scoresOfDeedsAndRecalls() {
        EDGES.sentence("GRADES", "plus 5 times its deeds, minus 25 if it was recalled");
        EDGES.due("one good deed", scoreWith(1, -1, false), 55);
        EDGES.due("one bad deed", scoreWith(-1, -1, false), 45);
        EDGES.due("recalled", scoreWith(0, -1, true), 25);
        EDGES.due("recalled with a deed", scoreWith(1, -1, true), 30);
        EDGES.due("with a grade of 4", scoreWith(2, 4, false), 50);
        EDGES.due("with a grade of 4, recalled", scoreWith(2, 4, true), 25);
        TermOffice x = Offices.ledBy(0, 3);
        x.setPresent(0, false);
        EDGES.due("over by absence: not recalled", x.term(1, 7), 50);
    }

    /** The score of a term with so many deeds and with nine grades of this sum. */
    private static int scoreOfSum(int deeds, int sum) {
        TermOffice x = Offices.ledBy(0, 10);
        Offices.deeds(x, deeds);
        x.pass(10);
        for (int m = 1; m < 10; m++) {
            Offices.grade(x, m, 1, sum / 9 + (m <= sum % 9 ? 1 : 0));
        }
        return x.term(1, 7);
    }

    private static void atLeastZero() {
        EDGES.sentence("GRADES", "but at least 0 and at most 100.");
        EDGES.due("50 - 45", scoreWith(-9, -1, false), 5);
        EDGES.due("50 - 50", scoreWith(-10, -1, false), 0);
        EDGES.due("50 - 55", scoreWith(-11, -1, false), 0);
        EDGES.due("50 - 100", scoreWith(-20, -1, false), 0);
        EDGES.due("0 - 5", scoreWith(-1, 0, false), 0);
        EDGES.due("50 - 20 - 25", scoreWith(-4, -1, true), 5);
        EDGES.due("50 - 25 - 25", scoreWith(-5, -1, true), 0);
        EDGES.due("50 - 30 - 25", scoreWith(-6, -1, true), 0);
        EDGES.due("20 - 25", scoreWith(0, 2, true), 0);
        EDGES.due("0 - 100 - 25", scoreWith(-20, 0, true), 0);
        EDGES.due("nothing is cut before the end", scoreWith(5, 0, true), 0);
        EDGES.due("0 + 30 - 25", scoreWith(6, 0, true), 5);
        EDGES.due("60 / 9 - 5 is 1", scoreOfSum(-1, 6), 1);
        EDGES.due("40 / 9 - 5 is -1", scoreOfSum(-1, 4), 0);
    }

    private static void atMostHundred() {
        EDGES.sentence("GRADES", "but at least 0 and at most 100.");
        EDGES.due("50 + 45", scoreWith(9, -1, false), 95);
        EDGES.due("50 + 50", scoreWith(10, -1, false), 100);
        EDGES.due("50 + 55", scoreWith(11, -1, false), 100);
        EDGES.due("100 + 5", scoreWith(1, 10, false), 100);
        EDGES.due("100 + 100", scoreWith(20, 10, false), 100);
        EDGES.due("nothing is cut before the end", scoreWith(1, 10, true), 80);
        EDGES.due("100 + 100 - 25", scoreWith(20, 10, true), 100);
        EDGES.due("100 + 25 - 25", scoreWith(5, 10, true), 100);
        EDGES.due("100 + 20 - 25", scoreWith(4, 10, true), 95);
        EDGES.due("850 / 9 + 5 is 99", scoreOfSum(1, 85), 99);
        EDGES.due("870 / 9 + 5 is 101", scoreOfSum(1, 87), 100);
    }

    /** Terms of member 0 with so many deeds each, member 1 leading after the first one. */
    private static TermOffice ledOften(int... deeds) {
        TermOffice x = Offices.easy(3);
        for (int i = 0; i < deeds.length; i++) {
            Offices.appoint(x, 0);
            Offices.deeds(x, deeds[i]);
            x.pass(10);
            if (i == 0) {
                Offices.appoint(x, 1);
                x.pass(10);
            }
        }
        return x;
    }

    private static void reputations() {
        EDGES.sentence("GRADES", "The reputation of a member is the sum of the scores of the latest terms that this "
            + "member has led and that are over, as many as the memory (all, if there are fewer), divided by "
            + "their number");
        EDGES.due("one", ledOften(2).member(0, 0), 60);
        EDGES.due("two, fewer than the memory", ledOften(2, 4).member(0, 0), 65);
        EDGES.due("three, as many", ledOften(2, 4, 6).member(0, 0), 70);
        TermOffice x = ledOften(2, 4, 6, 8);
        EDGES.due("four, one more: the first is left out", x.member(0, 0), 80);
        EDGES.due("the other's", x.member(1, 0), 50);
        x.set(5, 4);
        EDGES.due("a greater memory", x.member(0, 0), 75);
        x.set(5, 1);
        EDGES.due("the smallest memory", x.member(0, 0), 90);
        Offices.appoint(x, 0);
        Offices.deeds(x, -10);
        EDGES.due("a term that goes on does not count", x.member(0, 0), 90);
        x.pass(10);
        EDGES.due("when it is over it does", x.member(0, 0), 0);
        Offices.grade(x, 1, x.terms(), 10);
        EDGES.due("a grade changes it", x.member(0, 0), 50);
        TermOffice y = ledOften(2, 4, 6, 8);
        Offices.appoint(y, 0);
        EDGES.due("nor does it push out another", y.member(0, 0), 80);
    }

    private static void reputationsRoundedDown() {
        EDGES.sentence("GRADES", "divided by their number, rounded down");
        EDGES.due("50 and 55: 105 / 2", ledOften(0, 1).member(0, 0), 52);
        EDGES.due("50, 50 and 55: 155 / 3", ledOften(0, 0, 1).member(0, 0), 51);
        EDGES.due("50, 55 and 55: 160 / 3", ledOften(0, 1, 1).member(0, 0), 53);
        EDGES.due("0, 0 and 5: 5 / 3", ledOften(-10, -10, -9).member(0, 0), 1);
        EDGES.due("100, 100 and 95: 295 / 3", ledOften(10, 10, 9).member(0, 0), 98);
    }

    private static void noReputationYet() {
        EDGES.sentence("GRADES", "50 if there are none.");
        EDGES.due("new", Offices.easy(1).member(0, 0), 50);
        TermOffice x = Offices.ledBy(0, 2);
        Offices.deeds(x, 4);
        EDGES.due("the first goes on", x.member(0, 0), 50);
        x.pass(10);
        EDGES.due("the first is over", x.member(0, 0), 70);
        EDGES.due("one who has led none", x.member(1, 0), 50);
    }

    private static void grading() {
        EDGES.sentence("Promise 17", "Grades a term.");
        TermOffice x = over(10);
        EDGES.due("no grade", x.points(9, 1), NONE);
        Offices.grade(x, 9, 1, 3);
        EDGES.due("a grade", x.points(9, 1), 3);
        EDGES.sentence("Promise 17", "This is an act.");
        EDGES.isAct("the first", 1, () -> over(3), o -> Offices.grade(o, 1, 1, 9));
        EDGES.isAct("a later one", 1, () -> graded(), o -> Offices.grade(o, 1, 1, 9));
        EDGES.isAct("of another", 2, () -> graded(), o -> Offices.grade(o, 2, 1, 9));
        EDGES.sentence("Promise 17", "Returns the number of grades of the term");
        TermOffice y = over(10);
        for (int m = 1; m < 10; m++) {
            EDGES.due("of member " + m, Offices.grade(y, m, 1, m), m);
        }
        EDGES.due("nine at the most", Offices.grade(y, 5, 1, 1), 9);
        EDGES.sentence("Promise 17", "`member`: a member");
        EDGES.due("the first", Offices.grade(Offices.afterATermOf(9, 10), 0, 1, 5), 1);
        EDGES.due("the last", Offices.grade(over(10), 9, 1, 5), 1);
        EDGES.sentence("Promise 17", "`points`: 0 to 10");
        EDGES.due("0", Offices.grade(over(2), 1, 1, 0), 1);
        EDGES.due("10", Offices.grade(over(2), 1, 1, 10), 1);
    }

    private static TermOffice graded() {
        TermOffice x = over(3);
        Offices.grade(x, 1, 1, 4);
        return x;
    }

    private static void gradingNothing() {
        EDGES.sentence("Promise 17", "BAD if there is no such member or term, or points is not in its range");
        int[] noMember = {-1, 3, 10, NONE, SMALLEST, GREATEST};
        for (int m : noMember) {
            EDGES.refused("member " + m, BAD, () -> graded(), o -> Offices.grade(o, m, 1, 5));
            EDGES.refused("before STATE", BAD, () -> Offices.ledBy(0, 3), o -> Offices.grade(o, m, 1, 5));
        }
        int[] noPoints = {-1, 11, SMALLEST, GREATEST};
        for (int p : noPoints) {
            EDGES.refused("points " + p, BAD, () -> graded(), o -> Offices.grade(o, 1, 1, p));
            EDGES.refused("BAD before STATE", BAD, () -> graded(), o -> Offices.grade(o, 0, 1, p));
            EDGES.refused("BAD before FORGED", BAD, () -> graded(), o -> o.grade(1, 1, p, -1));
        }
        EDGES.sentence("Promise 17", "`term`: a term");
        int[] noTerm = {-1, 0, 2, 41, SMALLEST, GREATEST};
        for (int t : noTerm) {
            EDGES.refused("term " + t, BAD, () -> graded(), o -> Offices.grade(o, 1, t, 5));
        }
        EDGES.refused("no term at all", BAD, () -> Offices.easy(3), o -> Offices.grade(o, 1, 1, 5));
        EDGES.refused("no term yet", BAD, () -> Offices.opened(3, 0), o -> Offices.grade(o, 1, 1, 5));
    }

    private static TermOffice later(int units) {
        TermOffice x = graded();
        x.pass(units);
        return x;
    }

    private static TermOffice withALateComer() {
        TermOffice x = Offices.ledBy(0, 3);
        x.join(Offices.keyOf(3));
        x.pass(10);
        return x;
    }

    private static void gradingNotNow() {
        EDGES.sentence("Promise 17", "STATE if the term is not over, or was over more than 50 units of time ago, or "
            + "the member is its leader or was not present at its beginning");
        EDGES.refused("not over", STATE, () -> Offices.ledBy(0, 3), o -> Offices.grade(o, 1, 1, 5));
        EDGES.due("50 units ago", Offices.grade(later(50), 2, 1, 5), 2);
        EDGES.refused("51 units ago", STATE, () -> later(51), o -> Offices.grade(o, 2, 1, 5));
        EDGES.refused("51 units ago, again", STATE, () -> later(51), o -> Offices.grade(o, 1, 1, 5));
        EDGES.refused("its leader", STATE, () -> graded(), o -> Offices.grade(o, 0, 1, 5));
        EDGES.refused("not present", STATE, () -> withALateComer(), o -> Offices.grade(o, 3, 1, 5));
        EDGES.refused("not over, before FORGED", STATE, () -> Offices.ledBy(0, 3), o -> o.grade(1, 1, 5, -1));
        EDGES.refused("too late, before FORGED", STATE, () -> later(51), o -> o.grade(2, 1, 5, -1));
        EDGES.refused("its leader, before FORGED", STATE, () -> graded(), o -> o.grade(0, 1, 5, -1));
        EDGES.refused("not present, before FORGED", STATE, () -> withALateComer(), o -> o.grade(3, 1, 5, -1));
    }

    private static void gradingForged() {
        EDGES.sentence("Promise 17", "FORGED if the grade is forged.");
        int code = Offices.code(1, 1, 5);
        int[] wrong = {code - 1, code + 1, code + 997, code - 997, -code, -1, 997, SMALLEST, GREATEST};
        for (int c : wrong) {
            EDGES.refused("code " + c, FORGED, () -> graded(), o -> o.grade(1, 1, 5, c));
            EDGES.refused("a first one", FORGED, () -> over(3), o -> o.grade(1, 1, 5, c));
        }
        EDGES.refused("another member's", FORGED, () -> over(3), o -> o.grade(2, 1, 5, code));
        EDGES.refused("of other points", FORGED, () -> over(3), o -> o.grade(1, 1, 4, code));
        EDGES.sentence("Promise 17", "`code`: the code");
        EDGES.due("the right one", over(3).grade(1, 1, 5, code), 1);
    }

    private static void termNumbers() {
        EDGES.sentence("Promise 18", "Returns a number of a term.");
        EDGES.leavesAll("term(1, 7)", () -> graded(), o -> o.term(1, 7));
        EDGES.sentence("Promise 18", "`what`: 0 its leader, 1 its beginning, 2 its planned end, 3 the time at which "
            + "it was over (NONE if it is not), 4 its deeds, 5 1 if it was recalled, otherwise 0, 6 the number of "
            + "its grades, 7 its score (NONE if it is not over)");
        TermOffice x = Offices.easy(3);
        x.pass(5);
        Offices.appoint(x, 2);
        x.deed(false);
        int[] running = {2, 5, 15, NONE, -1, 0, 0, NONE};
        for (int what = 0; what < 8; what++) {
            EDGES.due("goes on: term(1, " + what + ")", x.term(1, what), running[what]);
        }
        x.pass(3);
        x.sign(0, true);
        Offices.grade(x, 1, 1, 9);
        int[] over = {2, 5, 15, 8, -1, 1, 1, 60};
        for (int what = 0; what < 8; what++) {
            EDGES.due("over: term(1, " + what + ")", x.term(1, what), over[what]);
        }
        TermOffice y = Offices.easy(2);
        Offices.appoint(y, 0);
        y.setPresent(0, false);
        EDGES.due("over at the time 0", y.term(1, 3), 0);
        EDGES.due("has a score", y.term(1, 7), 50);
    }

    private static void termNumbersRefused() {
        EDGES.sentence("Promise 18", "`term`: a term");
        EDGES.due("the first", graded().term(1, 0), 0);
        EDGES.sentence("Promise 18",
            "Returns that number; BAD if there is no such term, or what is not in its range.");
        int[] noTerm = {-1, 0, 2, 40, 41, SMALLEST, GREATEST};
        for (int t : noTerm) {
            EDGES.refused("term " + t, BAD, () -> graded(), o -> o.term(t, 0));
            EDGES.refused("term " + t, BAD, () -> graded(), o -> o.term(t, 7));
        }
        int[] noNumber = {-1, 8, SMALLEST, GREATEST};
        for (int what : noNumber) {
            EDGES.refused("what " + what, BAD, () -> graded(), o -> o.term(1, what));
        }
        EDGES.due("no term at all", new TermOffice().term(1, 0), BAD);
        EDGES.due("none undone", undone().term(1, 0), BAD);
    }

    private static TermOffice undone() {
        TermOffice x = Offices.ledBy(0, 2);
        x.undo();
        return x;
    }

    private static void points() {
        EDGES.sentence("Promise 19", "Returns the points that a member has given to a term.");
        TermOffice x = graded();
        Offices.appoint(x, 2);
        x.pass(10);
        Offices.grade(x, 1, 2, 10);
        Offices.grade(x, 0, 2, 0);
        EDGES.due("points(1, 1)", x.points(1, 1), 4);
        EDGES.due("points(1, 2)", x.points(1, 2), 10);
        EDGES.due("points(0, 2)", x.points(0, 2), 0);
        EDGES.leavesAll("points(1, 1)", () -> graded(), o -> o.points(1, 1));
        EDGES.sentence("Promise 19", "NONE if there is no grade.");
        EDGES.due("of its leader", x.points(2, 2), NONE);
        EDGES.due("of one who gave none", x.points(2, 1), NONE);
        x.join(5);
        EDGES.due("of one who joined since", x.points(3, 1), NONE);
        EDGES.due("of a term that goes on", Offices.ledBy(0, 2).points(1, 1), NONE);
        TermOffice y = over(3);
        y.grade(1, 1, 4, -1);
        EDGES.due("of one that was forged", y.points(1, 1), NONE);
        EDGES.sentence("Promise 19", "Returns the points");
        x.pass(1000);
        EDGES.due("long after", x.points(1, 1), 4);
    }

    private static void pointsRefused() {
        EDGES.sentence("Promise 19", "`member`: a member");
        EDGES.due("the last", graded().points(2, 1), NONE);
        EDGES.sentence("Promise 19", "`term`: a term");
        EDGES.due("the only one", graded().points(1, 1), 4);
        EDGES.sentence("Promise 19", "BAD if there is no such member or term");
        int[] noMember = {-1, 3, 10, NONE, SMALLEST, GREATEST};
        for (int m : noMember) {
            EDGES.refused("member " + m, BAD, () -> graded(), o -> o.points(m, 1));
        }
        int[] noTerm = {-1, 0, 2, 40, 41, SMALLEST, GREATEST};
        for (int t : noTerm) {
            EDGES.refused("term " + t, BAD, () -> graded(), o -> o.points(1, t));
        }
        EDGES.due("no term at all", Offices.easy(2).points(0, 1), BAD);
    }

    private static void memberNumbers() {
        EDGES.sentence("Promise 21", "Returns a number of a member.");
        EDGES.leavesAll("member(0, 0)", () -> graded(), o -> o.member(0, 0));
        EDGES.sentence("Promise 21", "`what`: 0 the reputation, 1 the number of terms led (the present one "
            + "included), 2 1 if present, otherwise 0, 3 1 if the member can lead, otherwise 0, 4 1 if the member "
            + "is a candidate, otherwise 0, 5 1 if the member has signed for a recall (also if it does not "
            + "count), otherwise 0");
        TermOffice x = Offices.ledBy(0, 5);
        x.set(2, 1);
        x.sign(1, true);
        x.setPresent(1, false);
        int[][] led = {{50, 1, 1, 0, 0, 0}, {50, 0, 0, 0, 0, 1}, {50, 0, 1, 1, 0, 0}};
        compare(x, led);
        x.pass(10);
        Offices.grade(x, 2, 1, 7);
        x.open();
        x.nominate(2);
        int[][] open = {{70, 1, 1, 0, 0, 0}, {50, 0, 0, 0, 0, 0}, {50, 0, 1, 1, 1, 0}};
        compare(x, open);
        x.close();
        int[][] next = {{70, 1, 1, 1, 0, 0}, {50, 0, 0, 0, 0, 0}, {50, 1, 1, 0, 0, 0}};
        compare(x, next);
    }

    private static void compare(TermOffice x, int[][] due) {
        for (int m = 0; m < due.length; m++) {
            for (int what = 0; what < due[m].length; what++) {
                EDGES.due("member(" + m + ", " + what + ")", x.member(m, what), due[m][what]);
            }
        }
    }

    private static void memberNumbersRefused() {
        EDGES.sentence("Promise 21", "`member`: a member");
        EDGES.due("the last of ten", over(10).member(9, 2), 1);
        EDGES.sentence("Promise 21",
            "Returns that number; BAD if there is no such member, or what is not in its range.");
        int[] noMember = {-1, 3, 10, NONE, SMALLEST, GREATEST};
        for (int m : noMember) {
            EDGES.refused("member " + m, BAD, () -> graded(), o -> o.member(m, 0));
            EDGES.refused("member " + m, BAD, () -> graded(), o -> o.member(m, 5));
        }
        int[] noNumber = {-1, 6, SMALLEST, GREATEST};
        for (int what : noNumber) {
            EDGES.refused("what " + what, BAD, () -> graded(), o -> o.member(0, what));
        }
        EDGES.due("the eleventh of ten", over(10).member(10, 0), BAD);
    }
}
