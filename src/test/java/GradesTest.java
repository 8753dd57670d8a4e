/** Promises 17 to 21: grade, term, points, terms, member, with scores and reputations. */
public final class GradesTest {
    private static final Checks CHECKS = new Checks();

    public static void main(String[] args) {
        grading();
        wrongArguments();
        whoCanGrade();
        howLong();
        forged();
        codesRoundTheModulus();
        scores();
        scoreLimits();
        termNumbers();
        reputationOfTheLatest();
        memberNumbers();
        undoneGrades();
        CHECKS.end();
    }

    private static TermOffice afterATermOf0(int members) {
        TermOffice x = Offices.easy(members);
        Offices.elapse(x, 0, 10);
        return x;
    }

    private static void grading() {
        TermOffice x = afterATermOf0(4);
        CHECKS.due("no grade", x.points(1, 1), TermOffice.NONE);
        CHECKS.due("score without grades", x.term(1, 7), 50);
        CHECKS.due("1 gives 7", Offices.grade(x, 1, 1, 7), 1);
        CHECKS.due("points(1, 1)", x.points(1, 1), 7);
        CHECKS.due("score of one", x.term(1, 7), 70);
        CHECKS.due("2 gives 0", Offices.grade(x, 2, 1, 0), 2);
        CHECKS.due("points(2, 1)", x.points(2, 1), 0);
        CHECKS.due("score of two", x.term(1, 7), 35);
        CHECKS.due("3 gives 10", Offices.grade(x, 3, 1, 10), 3);
        CHECKS.due("rounded down", x.term(1, 7), 56);
        CHECKS.due("1 gives 3 instead", Offices.grade(x, 1, 1, 3), 3);
        CHECKS.due("points(1, 1) then", x.points(1, 1), 3);
        CHECKS.due("score then", x.term(1, 7), 43);
        CHECKS.due("term(1, 6)", x.term(1, 6), 3);
        CHECKS.due("terms()", x.terms(), 1);
    }

    private static void wrongArguments() {
        TermOffice x = afterATermOf0(2);
        CHECKS.due("member -1", x.grade(-1, 1, 0, 0), TermOffice.BAD);
        CHECKS.due("member 2", x.grade(2, 1, 0, 0), TermOffice.BAD);
        CHECKS.due("term 0", x.grade(1, 0, 0, 0), TermOffice.BAD);
        CHECKS.due("term 2", x.grade(1, 2, 0, 0), TermOffice.BAD);
        CHECKS.due("points -1", Offices.grade(x, 1, 1, -1), TermOffice.BAD);
        CHECKS.due("points 11", Offices.grade(x, 1, 1, 11), TermOffice.BAD);
        CHECKS.due("BAD stands before STATE", Offices.grade(x, 0, 1, 11), TermOffice.BAD);
        CHECKS.due("extremes", x.grade(Integer.MAX_VALUE, Integer.MIN_VALUE, Integer.MAX_VALUE,
            Integer.MIN_VALUE), TermOffice.BAD);
        CHECKS.due("points(-1, 1)", x.points(-1, 1), TermOffice.BAD);
        CHECKS.due("points(2, 1)", x.points(2, 1), TermOffice.BAD);
        CHECKS.due("points(0, 0)", x.points(0, 0), TermOffice.BAD);
        CHECKS.due("points(0, 2)", x.points(0, 2), TermOffice.BAD);
        CHECKS.due("points(0, 1)", x.points(0, 1), TermOffice.NONE);
    }

    private static void whoCanGrade() {
        TermOffice x = Offices.easy(4);
        x.setPresent(3, false);
        Offices.elect(x, 0);
        x.setPresent(3, true);
        x.join(Offices.keyOf(4));
        CHECKS.due("not over", Offices.grade(x, 1, 1, 5), TermOffice.STATE);
        CHECKS.due("STATE stands before FORGED", x.grade(1, 1, 5, -1), TermOffice.STATE);
        x.pass(10);
        CHECKS.due("its leader", Offices.grade(x, 0, 1, 5), TermOffice.STATE);
        CHECKS.due("absent at its beginning", Offices.grade(x, 3, 1, 5), TermOffice.STATE);
        CHECKS.due("joined after its beginning", Offices.grade(x, 4, 1, 5), TermOffice.STATE);
        x.setPresent(2, false);
        CHECKS.due("absent now", Offices.grade(x, 2, 1, 5), 1);
        CHECKS.due("present", Offices.grade(x, 1, 1, 5), 2);
    }

    private static void howLong() {
        TermOffice x = afterATermOf0(4);
        x.pass(50);
        CHECKS.due("50 units later", Offices.grade(x, 1, 1, 5), 1);
        x.pass(1);
        CHECKS.due("51 units later", Offices.grade(x, 2, 1, 5), TermOffice.STATE);
        CHECKS.due("nor replaced", Offices.grade(x, 1, 1, 6), TermOffice.STATE);
        CHECKS.due("the grade stays", x.points(1, 1), 5);
        TermOffice y = Offices.easy(3);
        Offices.elect(y, 0);
        y.pass(1);
        y.setPresent(0, false);
        y.pass(50);
        CHECKS.due("counted from the end, not the planned one", Offices.grade(y, 1, 1, 5), 1);
        y.pass(1);
        CHECKS.due("51 units after it", Offices.grade(y, 2, 1, 5), TermOffice.STATE);
    }

    private static void forged() {
        TermOffice x = afterATermOf0(3);
        int code = Offices.code(1, 1, 5);
        CHECKS.due("one more", x.grade(1, 1, 5, code + 1), TermOffice.FORGED);
        CHECKS.due("one less", x.grade(1, 1, 5, code - 1), TermOffice.FORGED);
        CHECKS.due("by the modulus more", x.grade(1, 1, 5, code + 997), TermOffice.FORGED);
        CHECKS.due("by the modulus less", x.grade(1, 1, 5, code - 997), TermOffice.FORGED);
        CHECKS.due("of other points", x.grade(1, 1, 6, code), TermOffice.FORGED);
        CHECKS.due("of another member", x.grade(2, 1, 5, code), TermOffice.FORGED);
        CHECKS.due("no grade", x.term(1, 6), 0);
        CHECKS.due("forged grades are no acts", x.undo(), 4);
    }

    private static void codesRoundTheModulus() {
        TermOffice x = new TermOffice();
        x.set(4, 0);
        x.join(0);
        x.join(996);
        x.join(949);
        Offices.elapse(x, 0, 100);
        CHECKS.due("31 + 17 + 0 + 996 is 47", x.grade(1, 1, 0, 47), 1);
        CHECKS.due("not reduced", x.grade(1, 1, 0, 1044), TermOffice.FORGED);
        CHECKS.due("31 + 34 + 0 + 949 is 17", x.grade(2, 1, 0, 17), 2);
        x.open();
        x.nominate(1);
        x.close();
        x.pass(100);
        CHECKS.due("62 + 0 + 70 + 0 is 132", x.grade(0, 2, 10, 132), 1);
    }

    private static void scores() {
        TermOffice x = Offices.easy(5);
        Offices.elect(x, 0);
        Offices.deeds(x, 3);
        CHECKS.due("not over", x.term(1, 7), TermOffice.NONE);
        x.sign(1, true);
        x.sign(2, true);
        CHECKS.due("50 + 15 - 25", x.term(1, 7), 40);
        Offices.grade(x, 1, 1, 8);
        CHECKS.due("80 + 15 - 25", x.term(1, 7), 70);
        Offices.elect(x, 1);
        Offices.deeds(x, -4);
        x.pass(10);
        CHECKS.due("50 - 20", x.term(2, 7), 30);
    }

    private static void scoreLimits() {
        TermOffice x = Offices.easy(4);
        Offices.elect(x, 0);
        Offices.deeds(x, 20);
        x.pass(10);
        CHECKS.due("at most 100", x.term(1, 7), 100);
        Offices.grade(x, 1, 1, 1);
        CHECKS.due("the deeds above it are not lost", x.term(1, 7), 100);
        Offices.elect(x, 1);
        Offices.deeds(x, -20);
        x.pass(10);
        CHECKS.due("at least 0", x.term(2, 7), 0);
        Offices.elect(x, 2);
        Offices.deeds(x, -6);
        x.sign(0, true);
        x.sign(1, true);
        CHECKS.due("0 with a recall too", x.term(3, 7), 0);
    }

    private static void termNumbers() {
        TermOffice x = Offices.easy(3);
        CHECKS.due("no term", x.term(1, 0), TermOffice.BAD);
        x.pass(5);
        Offices.elect(x, 2);
        x.deed(true);
        int[] running = {2, 5, 15, TermOffice.NONE, 1, 0, 0, TermOffice.NONE};
        for (int what = 0; what < 8; what++) {
            CHECKS.due("running: term(1, " + what + ")", x.term(1, what), running[what]);
        }
        x.pass(1);
        x.sign(0, true);
        Offices.grade(x, 0, 1, 9);
        int[] over = {2, 5, 15, 6, 1, 1, 1, 70};
        for (int what = 0; what < 8; what++) {
            CHECKS.due("over: term(1, " + what + ")", x.term(1, what), over[what]);
        }
        int[] wrong = {-1, 8, Integer.MIN_VALUE, Integer.MAX_VALUE};
        for (int number : wrong) {
            CHECKS.due("term(1, " + number + ")", x.term(1, number), TermOffice.BAD);
            CHECKS.due("term(" + number + ", 0)", x.term(number, 0), TermOffice.BAD);
        }
        CHECKS.due("term(0, 0)", x.term(0, 0), TermOffice.BAD);
        CHECKS.due("term(2, 0)", x.term(2, 0), TermOffice.BAD);
    }

    /** Terms of member 0 with scores of 60, 55, 50 and 30, one of member 1 between them. */
    private static void reputationOfTheLatest() {
        TermOffice x = Offices.easy(2);
        int[] deeds = {2, 1, 0, -4};
        for (int i = 0; i < 4; i++) {
            Offices.elect(x, 0);
            Offices.deeds(x, deeds[i]);
            if (i == 3) {
                CHECKS.due("the running term does not count", x.member(0, 0), 55);
                CHECKS.due("but is led", x.member(0, 1), 4);
            }
            x.pass(10);
            if (i == 1) {
                Offices.elapse(x, 1, 10);
            }
        }
        CHECKS.due("the latest three, 135 / 3", x.member(0, 0), 45);
        x.set(5, 1);
        CHECKS.due("the latest one", x.member(0, 0), 30);
        x.set(5, 2);
        CHECKS.due("the latest two", x.member(0, 0), 40);
        x.set(5, 4);
        CHECKS.due("all four, 195 / 4", x.member(0, 0), 48);
        x.set(5, 10);
        CHECKS.due("all, if there are fewer", x.member(0, 0), 48);
        CHECKS.due("the other one's", x.member(1, 0), 50);
    }

    private static void memberNumbers() {
        TermOffice x = Offices.easy(3);
        Offices.elect(x, 0);
        x.sign(2, true);
        CHECKS.due("recalled by one of two", x.office(), 1);
        x.open();
        x.nominate(1);
        int[] first = {25, 1, 1, 1, 0, 0};
        int[] second = {50, 0, 1, 1, 1, 0};
        for (int what = 0; what < 6; what++) {
            CHECKS.due("member(0, " + what + ")", x.member(0, what), first[what]);
            CHECKS.due("member(1, " + what + ")", x.member(1, what), second[what]);
        }
        x.close();
        CHECKS.due("no candidate when closed", x.member(1, 4), 0);
        CHECKS.due("led", x.member(1, 1), 1);
        int[] wrong = {-1, 6, Integer.MIN_VALUE, Integer.MAX_VALUE};
        for (int number : wrong) {
            CHECKS.due("member(0, " + number + ")", x.member(0, number), TermOffice.BAD);
            CHECKS.due("member(" + number + ", 0)", x.member(number, 0), TermOffice.BAD);
        }
        CHECKS.due("member(3, 0)", x.member(3, 0), TermOffice.BAD);
    }

    private static void undoneGrades() {
        TermOffice x = afterATermOf0(3);
        Offices.grade(x, 1, 1, 4);
        Offices.grade(x, 1, 1, 9);
        CHECKS.due("undo()", x.undo(), 4);
        CHECKS.due("the earlier grade is back", x.points(1, 1), 4);
        CHECKS.due("and its score", x.term(1, 7), 40);
        x.undo();
        CHECKS.due("no grade", x.points(1, 1), TermOffice.NONE);
    }
}
