/** EVENTS, HISTORY and the promises 23, 24, 27 and 28, an edge at a time. */
public final class HistoryEdgesTest {
    private static final Edges EDGES = new Edges();
    private static final int BAD = TermOffice.BAD;
    private static final int NONE = TermOffice.NONE;
    private static final int SMALLEST = Integer.MIN_VALUE;
    private static final int GREATEST = Integer.MAX_VALUE;

    public static void main(String[] args) {
        twentyEvents();
        kindsOfEvents();
        theEndIsToldFirst();
        countOfEvents();
        eventNumbers();
        eventNumbersRefused();
        fiveStates();
        everythingButTheBuffer();
        theOldestIsDropped();
        theLatestIsRestored();
        undoing();
        undoingNothing();
        fingerprints();
        fingerprintsRunOver();
        EDGES.end();
    }

    /** Elections without anybody elected, one at each unit of time: the event i is of the time i. */
    private static TermOffice failed(int times) {
        TermOffice x = Offices.withMembers(2);
        for (int i = 0; i < times; i++) {
            x.pass(1);
            Offices.appoint(x, 0);
        }
        return x;
    }

    private static void twentyEvents() {
        EDGES.sentence("EVENTS", "The latest 20 events are kept");
        int[] counts = {1, 19, 20, 21, 39, 40, 41, 60, 61};
        for (int count : counts) {
            TermOffice x = failed(count);
            for (int i = 0; i < 20; i++) {
                EDGES.due(count + " events: event(" + i + ", 0)", x.event(i, 0), i < count ? count - i : NONE);
                EDGES.due(count + " events: event(" + i + ", 1)", x.event(i, 1), i < count ? 6 : NONE);
            }
            for (int what = 0; what < 3; what++) {
                EDGES.due(count + " events: event(20, " + what + ")", x.event(20, what), NONE);
                EDGES.due(count + " events: the first", x.event(Math.max(20, count - 1), what), NONE);
            }
        }
        TermOffice y = failed(21);
        y.undo();
        EDGES.due("undone: the one that was dropped is back", y.event(19, 0), 1);
        EDGES.due("undone: no more", y.event(20, 0), NONE);
        TermOffice z = Offices.afterATermOf(0, 1);
        z.set(4, 100);
        for (int i = 0; i < 18; i++) {
            Offices.appoint(z, 0);
        }
        EDGES.due("the second is kept", z.event(19, 1), 2);
        EDGES.due("with its member", z.event(19, 2), 0);
        EDGES.due("the first is not", z.event(20, 1), NONE);
        z.undo();
        EDGES.due("undone: the kind of the first", z.event(19, 1), 1);
        EDGES.due("undone: its member", z.event(19, 2), 0);
        EDGES.due("undone: its time", z.event(19, 0), 0);
    }

    private static void told(TermOffice x, int i, int time, int kind, int member) {
        EDGES.due("event(" + i + ", 0)", x.event(i, 0), time);
        EDGES.due("event(" + i + ", 1)", x.event(i, 1), kind);
        EDGES.due("event(" + i + ", 2)", x.event(i, 2), member);
    }

    private static void kindsOfEvents() {
        EDGES.sentence("EVENTS", "the time, the kind (1 a term begins, 2 a term is over as planned, 3 recalled, 4 over "
            + "because its leader is absent, 5 a caretaker is appointed, 6 an election ends without anybody "
            + "elected, 7 the office becomes vacant) and the member (NONE for the kinds 6 and 7).");
        TermOffice x = Offices.easy(3);
        x.pass(1);
        Offices.appoint(x, 2);
        told(x, 0, 1, 1, 2);
        x.pass(1000);
        told(x, 0, 11, 5, 0);
        told(x, 1, 11, 2, 2);
        Offices.appoint(x, 1);
        x.pass(1);
        x.sign(0, true);
        told(x, 0, 1002, 5, 0);
        told(x, 1, 1002, 3, 1);
        Offices.appoint(x, 0);
        x.pass(2);
        x.setPresent(0, false);
        told(x, 0, 1004, 5, 2);
        told(x, 1, 1004, 4, 0);
        x.set(4, 100);
        Offices.appoint(x, 1);
        told(x, 0, 1004, 6, NONE);
        x.pass(3);
        x.setPresent(2, false);
        told(x, 0, 1007, 5, 1);
        x.setPresent(1, false);
        told(x, 0, 1007, 7, NONE);
        EDGES.due("events()", x.events(), 12);
    }

    private static void theEndIsToldFirst() {
        EDGES.sentence("EVENTS", "If a term is over, this is told first, then the caretaker or the vacancy.");
        int[] memberCounts = {1, 2};
        for (int members : memberCounts) {
            TermOffice x = Offices.afterATermOf(0, members);
            told(x, 1, 10, 2, 0);
            told(x, 0, 10, members == 1 ? 7 : 5, members == 1 ? NONE : 1);
            EDGES.due("no more", x.events(), 3);
            TermOffice y = Offices.ledBy(0, members);
            y.setPresent(0, false);
            told(y, 1, 0, 4, 0);
            told(y, 0, 0, members == 1 ? 7 : 5, members == 1 ? NONE : 1);
            EDGES.due("no more", y.events(), 3);
        }
        TermOffice z = Offices.ledBy(0, 2);
        z.sign(1, true);
        told(z, 1, 0, 3, 0);
        told(z, 0, 0, 5, 1);
        EDGES.due("no more", z.events(), 3);
    }

    private static void countOfEvents() {
        EDGES.sentence("Promise 23", "Returns the number of all events, also of those that are not kept any more.");
        int[] counts = {0, 1, 19, 20, 21, 40, 41, 100};
        for (int count : counts) {
            EDGES.due("events()", failed(count).events(), count);
        }
        EDGES.leavesAll("events()", () -> failed(21), o -> o.events());
        EDGES.sentence("Promise 23", "Returns the number of events.");
        EDGES.due("none", new TermOffice().events(), 0);
        TermOffice x = Offices.easy(3);
        x.set(0, 20);
        x.join(1);
        x.setPresent(1, false);
        x.setPresent(1, true);
        x.pass(500);
        x.open();
        x.nominate(1);
        Offices.cast(x, 0, "1");
        EDGES.due("other acts are no events", x.events(), 0);
        x.close();
        EDGES.due("a term begins", x.events(), 1);
        x.deed(true);
        x.sign(0, true);
        EDGES.due("deeds and signatures are none", x.events(), 1);
        x.undo();
        x.undo();
        x.undo();
        EDGES.due("undone", x.events(), 0);
    }

    private static void eventNumbers() {
        EDGES.sentence("Promise 24", "Returns a number of an event.");
        EDGES.leavesAll("event(0, 0)", () -> failed(3), o -> o.event(0, 0));
        EDGES.sentence("Promise 24", "`i`: 0 for the latest event, 1 for the one before it, and so on");
        TermOffice x = failed(25);
        EDGES.due("the latest", x.event(0, 0), 25);
        EDGES.due("the one before it", x.event(1, 0), 24);
        EDGES.due("the last one kept", x.event(19, 0), 6);
        EDGES.sentence("Promise 24", "`what`: 0 the time, 1 the kind, 2 the member");
        TermOffice y = Offices.easy(3);
        y.pass(7);
        Offices.appoint(y, 2);
        told(y, 0, 7, 1, 2);
    }

    private static void eventNumbersRefused() {
        EDGES.sentence("Promise 24", "Returns that number; BAD if i is negative, or what is not in its range");
        int[] wrong = {-1, NONE, SMALLEST};
        for (int i : wrong) {
            EDGES.refused("event(" + i + ", 0)", BAD, () -> failed(3), o -> o.event(i, 0));
        }
        int[] noNumber = {-1, 3, SMALLEST, GREATEST};
        for (int what : noNumber) {
            EDGES.refused("event(0, " + what + ")", BAD, () -> failed(3), o -> o.event(0, what));
            EDGES.due("BAD before NONE, not there", failed(3).event(3, what), BAD);
            EDGES.due("BAD before NONE, not kept", failed(25).event(20, what), BAD);
            EDGES.due("BAD before NONE, none at all", new TermOffice().event(0, what), BAD);
        }
        EDGES.sentence("Promise 24", "NONE if there is no such event, or it is not kept.");
        EDGES.due("none at all", new TermOffice().event(0, 0), NONE);
        EDGES.due("the first of three", failed(3).event(2, 0), 1);
        EDGES.due("no fourth of three", failed(3).event(3, 0), NONE);
        EDGES.due("the twentieth of 25", failed(25).event(19, 0), 6);
        EDGES.due("not kept", failed(25).event(20, 0), NONE);
        EDGES.due("nor the first one", failed(25).event(24, 0), NONE);
        EDGES.due("no such event", failed(25).event(25, 0), NONE);
        EDGES.due("far away", failed(25).event(GREATEST, 0), NONE);
    }

    private static TermOffice passed(int times) {
        TermOffice x = new TermOffice();
        for (int i = 0; i < times; i++) {
            x.pass(1);
        }
        return x;
    }

    private static void fiveStates() {
        EDGES.sentence("HISTORY", "A history of at most 5 states is kept");
        for (int acts = 0; acts <= 13; acts++) {
            TermOffice x = passed(acts);
            for (int left = Math.min(acts, 5) - 1; left >= 0; left--) {
                EDGES.due(acts + " acts: undo()", x.undo(), left);
            }
            EDGES.due(acts + " acts: no more", x.undo(), NONE);
            EDGES.due(acts + " acts: time()", x.time(), Math.max(0, acts - 5));
        }
    }

    /** An open election with ballots and tallies of the one before, after a term with grades. */
    private static TermOffice rich() {
        TermOffice x = Offices.easy(5);
        Offices.elapse(x, 0, 10);
        Offices.grade(x, 1, 1, 8);
        x.open();
        Offices.nominate(x, 1, 2);
        Offices.cast(x, 0, "2>1");
        Offices.cast(x, 4, "1");
        return x;
    }

    private static void everythingButTheBuffer() {
        EDGES.sentence("HISTORY", "(everything but the buffer).");
        TermOffice x = rich();
        x.setPresent(1, false);
        x.close();
        x.deed(true);
        x.sign(3, true);
        x.sign(4, true);
        EDGES.due("the second term was recalled", x.term(2, 5), 1);
        for (int i = 0; i < 5; i++) {
            x.undo();
        }
        EDGES.due("all is as before", Answers.readings(x).equals(Answers.readings(rich())) ? 1 : 0, 1);
        EDGES.due("what comes next, too", Answers.future(x).equals(Answers.future(rich())) ? 1 : 0, 1);
        TermOffice y = rich();
        y.set(0, 77);
        y.set(3, 7);
        y.set(5, 7);
        y.join(3);
        y.pass(1);
        for (int i = 0; i < 5; i++) {
            y.undo();
        }
        EDGES.due("the settings, too", Answers.settings(y).equals(Answers.settings(rich())) ? 1 : 0, 1);
        TermOffice z = rich();
        Offices.write(z, "1>2");
        z.undo();
        EDGES.due("the buffer stays", z.clear(), 3);
        TermOffice w = rich();
        Offices.cast(w, 3, "1>2");
        w.undo();
        EDGES.due("nor does it come back", w.clear(), 0);
    }

    private static void theOldestIsDropped() {
        EDGES.sentence("HISTORY", "if there are 5 already, the oldest one is dropped.");
        TermOffice x = new TermOffice();
        int[] times = {1, 3, 7, 15, 31, 63};
        for (int i = 0; i < times.length; i++) {
            x.pass(1 << i);
            EDGES.due("time()", x.time(), times[i]);
        }
        for (int i = 4; i >= 0; i--) {
            EDGES.due("undo()", x.undo(), i);
            EDGES.due("time()", x.time(), times[i]);
        }
        EDGES.due("the state of the time 0 was dropped", x.undo(), NONE);
        EDGES.due("time()", x.time(), 1);
        EDGES.sentence("HISTORY", "Each call described as an act that returns no error adds the state before it");
        TermOffice y = passed(3);
        y.pass(0);
        y.set(0, 9);
        y.join(997);
        y.deed(true);
        y.time();
        y.type('0');
        y.clear();
        y.fingerprint();
        EDGES.due("errors and readings add none", y.undo(), 2);
        EDGES.due("time()", y.time(), 2);
    }

    private static void theLatestIsRestored() {
        EDGES.sentence("HISTORY", "undo() removes the latest one and restores it.");
        TermOffice x = passed(5);
        EDGES.due("undo()", x.undo(), 4);
        x.pass(100);
        EDGES.due("time()", x.time(), 104);
        EDGES.due("the new act is undone", x.undo(), 4);
        EDGES.due("time()", x.time(), 4);
        EDGES.due("then the one before", x.undo(), 3);
        EDGES.due("time()", x.time(), 3);
        for (int i = 0; i < 11; i++) {
            x.pass(1);
            x.pass(10);
            x.undo();
        }
        EDGES.due("time()", x.time(), 14);
        for (int left = 3; left >= 0; left--) {
            EDGES.due("undo()", x.undo(), left);
            EDGES.due("time()", x.time(), 10 + left);
        }
        EDGES.due("no more", x.undo(), NONE);
        EDGES.due("an act is possible again", x.pass(1), 11);
        EDGES.due("and undone", x.undo(), 0);
        EDGES.due("time()", x.time(), 10);
    }

    private static void undoing() {
        EDGES.sentence("Promise 27", "Undoes the latest act.");
        TermOffice x = rich();
        EDGES.due("undo()", x.undo(), 4);
        EDGES.due("the latest ballot is gone", x.ballot(4, 0), NONE);
        EDGES.due("the one before it is not", x.ballot(0, 0), 2);
        EDGES.sentence("Promise 27", "Returns how many states the history still has");
        EDGES.due("undo()", x.undo(), 3);
        EDGES.due("no ballot", x.ballot(0, 0), NONE);
        EDGES.due("undo()", x.undo(), 2);
        EDGES.due("one candidate", x.member(1, 4) * 10 + x.member(2, 4), 10);
        EDGES.due("undo()", x.undo(), 1);
        EDGES.due("no candidate", x.member(1, 4), 0);
        EDGES.due("undo()", x.undo(), 0);
        EDGES.due("no election", x.ballot(0, 0), TermOffice.STATE);
    }

    private static TermOffice usedUp() {
        TermOffice x = rich();
        for (int i = 0; i < 5; i++) {
            x.undo();
        }
        Offices.write(x, "0>1");
        return x;
    }

    private static void undoingNothing() {
        EDGES.sentence("Promise 27", "NONE if it has none.");
        EDGES.refused("new", NONE, TermOffice::new, o -> o.undo());
        EDGES.refused("used up", NONE, HistoryEdgesTest::usedUp, o -> o.undo());
        EDGES.due("the last one is 0, not NONE", passed(1).undo(), 0);
    }

    private static long asTold(TermOffice x) {
        long mark = 83;
        int[] first = {x.time(), x.office(), x.holder(), x.terms(), x.events()};
        for (int number : first) {
            mark = 31 * mark + number;
        }
        for (int term = 1; term <= x.terms(); term++) {
            for (int what = 0; what <= 7; what++) {
                mark = 31 * mark + x.term(term, what);
            }
        }
        int members = Answers.members(x);
        mark = 31 * mark + members;
        for (int m = 0; m < members; m++) {
            for (int what = 0; what <= 5; what++) {
                mark = 31 * mark + x.member(m, what);
            }
        }
        return mark;
    }

    private static void fingerprints() {
        EDGES.sentence("Promise 28", "Returns a fingerprint.");
        EDGES.leavesAll("fingerprint()", HistoryEdgesTest::rich, o -> (int) o.fingerprint());
        EDGES.sentence("Promise 28", "It starts as 83");
        EDGES.due("83 and six numbers: 0, 0, -9, 0, 0, 0", new TermOffice().fingerprint(), 73662537404L);
        EDGES.sentence("Promise 28", "then, for each of the following numbers, in this order, it becomes 31 times "
            + "itself plus the number");
        TermOffice x = new TermOffice();
        x.pass(1);
        long sixth = 31L * 31 * 31 * 31 * 31;
        EDGES.due("the time is the first of six", x.fingerprint(), 73662537404L + sixth);
        EDGES.sentence("Promise 28", "time(), office(), holder(), terms(), events()");
        EDGES.due("led", Offices.ledBy(1, 3).fingerprint(), asTold(Offices.ledBy(1, 3)));
        EDGES.due("kept", Offices.afterATermOf(1, 3).fingerprint(), asTold(Offices.afterATermOf(1, 3)));
        EDGES.due("many events", failed(25).fingerprint(), asTold(failed(25)));
        EDGES.sentence("Promise 28", "for each term term() 0 to 7");
        TermOffice y = rich();
        EDGES.due("one term", y.fingerprint(), asTold(y));
        y.close();
        y.deed(false);
        EDGES.due("two terms", y.fingerprint(), asTold(y));
        EDGES.sentence("Promise 28", "the number of members");
        for (int members = 0; members <= 10; members++) {
            TermOffice z = Offices.easy(members);
            EDGES.due(members + " members", z.fingerprint(), asTold(z));
        }
        EDGES.sentence("Promise 28", "for each member member() 0 to 5.");
        TermOffice w = Offices.ledBy(0, 6);
        w.sign(1, true);
        w.setPresent(2, false);
        EDGES.due("six members", w.fingerprint(), asTold(w));
        EDGES.due("an open election", rich().fingerprint(), asTold(rich()));
    }

    private static void fingerprintsRunOver() {
        EDGES.sentence("Promise 28", "in long arithmetic with overflow");
        TermOffice x = Offices.easy(10);
        for (int i = 0; i < 40; i++) {
            Offices.appoint(x, i % 10);
            Offices.deeds(x, i % 3 - 1);
            x.pass(10);
        }
        EDGES.due("forty terms, ten members", x.fingerprint(), asTold(x));
        EDGES.sentence("Promise 28", "Returns the fingerprint.");
        EDGES.due("the same twice", x.fingerprint(), x.fingerprint());
        EDGES.due("no act", x.undo(), 4);
    }
}
