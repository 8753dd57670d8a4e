/** Offices brought into the states that tests begin with, by calls of the public face alone. */
final class Offices {
    private Offices() {
    }

    static int keyOf(int member) {
        return 100 * member + 7;
    }

    static TermOffice withMembers(int count) {
        TermOffice office = new TermOffice();
        for (int m = 0; m < count; m++) {
            office.join(keyOf(m));
        }
        return office;
    }

    /** Limits that stand in nobody's way, no quorum, and terms of 10 units. */
    static TermOffice easy(int count) {
        TermOffice office = withMembers(count);
        office.set(0, 10);
        office.set(1, 9);
        office.set(2, 9);
        office.set(4, 0);
        return office;
    }

    static void nominate(TermOffice office, int... members) {
        for (int member : members) {
            office.nominate(member);
        }
    }

    static int write(TermOffice office, String text) {
        int length = office.clear();
        for (int i = 0; i < text.length(); i++) {
            length = office.type(text.charAt(i));
        }
        return length;
    }

    static int cast(TermOffice office, int voter, String text) {
        write(office, text);
        return office.cast(voter);
    }

    /** Elects the only candidate, by the ballots of all (absent members' are refused). */
    static int elect(TermOffice office, int member) {
        office.open();
        office.nominate(member);
        for (int voter = 0; voter < 10; voter++) {
            cast(office, voter, String.valueOf(member));
        }
        office.clear();
        return office.close();
    }

    /** Elects the only candidate without any ballot, where no quorum is wanted. */
    static int appoint(TermOffice office, int member) {
        office.open();
        office.nominate(member);
        return office.close();
    }

    /** An easy office that is led by a member. */
    static TermOffice ledBy(int member, int count) {
        TermOffice office = easy(count);
        appoint(office, member);
        return office;
    }

    /** An easy office after a whole term of a member. */
    static TermOffice afterATermOf(int member, int count) {
        TermOffice office = ledBy(member, count);
        office.pass(10);
        return office;
    }

    /** An easy office with an open election, in which some members are nominated. */
    static TermOffice opened(int count, int... candidates) {
        TermOffice office = easy(count);
        office.open();
        nominate(office, candidates);
        return office;
    }

    static void elapse(TermOffice office, int member, int length) {
        elect(office, member);
        office.pass(length);
    }

    static int code(int member, int term, int points) {
        return (31 * term + 17 * member + 7 * points + keyOf(member)) % 997;
    }

    static int grade(TermOffice office, int member, int term, int points) {
        return office.grade(member, term, points, code(member, term, points));
    }

    static void deeds(TermOffice office, int count) {
        for (int i = 0; i < Math.abs(count); i++) {
            office.deed(count > 0);
        }
    }

    /** How many acts can be undone; the office is used up by this. */
    static int undoable(TermOffice office) {
        int count = 0;
        while (count < 100 && office.undo() != TermOffice.NONE) {
            count++;
        }
        return count;
    }
}
