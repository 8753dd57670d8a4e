/** Promises 23 and 24: events, event. */
public final class EventsTest {
    private static final Checks CHECKS = new Checks();

    public static void main(String[] args) {
        wrongArguments();
        everyKind();
        onlyTheLatestAreKept();
        undoneEvents();
        CHECKS.end();
    }

    private static void wrongArguments() {
        TermOffice x = Offices.easy(1);
        CHECKS.due("event(0, 0)", x.event(0, 0), TermOffice.NONE);
        CHECKS.due("event(-1, 0)", x.event(-1, 0), TermOffice.BAD);
        CHECKS.due("event(0, -1)", x.event(0, -1), TermOffice.BAD);
        CHECKS.due("event(0, 3)", x.event(0, 3), TermOffice.BAD);
        CHECKS.due("BAD stands before NONE", x.event(100, 3), TermOffice.BAD);
        CHECKS.due("extremes", x.event(Integer.MIN_VALUE, Integer.MIN_VALUE), TermOffice.BAD);
        Offices.elect(x, 0);
        CHECKS.due("event(1, 0)", x.event(1, 0), TermOffice.NONE);
        CHECKS.due("a great index", x.event(Integer.MAX_VALUE, 0), TermOffice.NONE);
    }

    private static void everyKind() {
        TermOffice x = Offices.easy(3);
        Offices.elapse(x, 0, 11);
        Offices.elect(x, 1);
        x.sign(0, true);
        Offices.elect(x, 2);
        x.pass(1);
        x.setPresent(2, false);
        x.open();
        x.nominate(0);
        x.set(4, 100);
        x.close();
        x.setPresent(1, false);
        x.setPresent(0, false);
        int none = TermOffice.NONE;
        int[][] due = {{0, 1, 0}, {10, 2, 0}, {10, 5, 1}, {11, 1, 1}, {11, 3, 1}, {11, 5, 2},
            {11, 1, 2}, {12, 4, 2}, {12, 5, 0}, {12, 6, none}, {12, 7, none}};
        CHECKS.due("events()", x.events(), due.length);
        for (int i = 0; i < due.length; i++) {
            for (int what = 0; what < 3; what++) {
                int back = due.length - 1 - i;
                CHECKS.due("event(" + back + ", " + what + ")", x.event(back, what), due[i][what]);
            }
        }
    }

    /** An election without anybody elected, at every unit of time. */
    private static void fail(TermOffice x, int times) {
        for (int i = 0; i < times; i++) {
            x.pass(1);
            x.open();
            x.nominate(0);
            x.close();
        }
    }

    private static void onlyTheLatestAreKept() {
        TermOffice x = Offices.withMembers(2);
        fail(x, 20);
        CHECKS.due("the twentieth", x.event(19, 0), 1);
        CHECKS.due("no more", x.event(20, 0), TermOffice.NONE);
        fail(x, 27);
        CHECKS.due("events()", x.events(), 47);
        for (int i = 0; i < 20; i++) {
            CHECKS.due("event(" + i + ", 0)", x.event(i, 0), 47 - i);
        }
        CHECKS.due("not kept", x.event(20, 0), TermOffice.NONE);
        CHECKS.due("not kept, the first", x.event(46, 1), TermOffice.NONE);
    }

    private static void undoneEvents() {
        TermOffice x = Offices.withMembers(2);
        fail(x, 21);
        CHECKS.due("the oldest that is kept", x.event(19, 0), 2);
        x.undo();
        CHECKS.due("events()", x.events(), 20);
        CHECKS.due("the one that was dropped is back", x.event(19, 0), 1);
        CHECKS.due("the latest", x.event(0, 0), 20);

        TermOffice y = Offices.easy(2);
        Offices.elect(y, 0);
        y.set(0, 100);
        y.set(4, 100);
        y.pass(10);
        fail(y, 17);
        CHECKS.due("twenty events", y.events(), 20);
        fail(y, 1);
        CHECKS.due("the oldest that is kept then", y.event(19, 1), 2);
        y.undo();
        CHECKS.due("its kind is back", y.event(19, 1), 1);
        CHECKS.due("its member is back", y.event(19, 2), 0);
    }
}
