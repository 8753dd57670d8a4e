import java.util.ArrayList;
import java.util.List;
import java.util.function.Supplier;
import java.util.function.ToIntFunction;

/** ERRORS and HISTORY for every method at once: many calls in many states, refused or acts. */
public final class ErrorsEdgesTest {
    private static final Edges EDGES = new Edges();
    private static final int BAD = TermOffice.BAD;
    private static final int STATE = TermOffice.STATE;
    private static final int FULL = TermOffice.FULL;
    private static final int LIMIT = TermOffice.LIMIT;
    private static final int FORGED = TermOffice.FORGED;
    private static final int[] NUMBERS = {Integer.MIN_VALUE, -9, -1, 0, 1, 2, 4, 5, 6, 9, 10, 11, 40, 41, 100,
        996, 997, 1000, 1001, Integer.MAX_VALUE};

    private record Call(String name, ToIntFunction<TermOffice> asked) {
    }

    private int refusals;
    private int acts;

    public static void main(String[] args) {
        theOneListedFirst();
        new ErrorsEdgesTest().everyCall();
        EDGES.end();
    }

    private static TermOffice candidateAtTheLimit() {
        TermOffice x = Offices.afterATermOf(0, 2);
        x.open();
        x.nominate(0);
        x.set(2, 1);
        return x;
    }

    private static TermOffice inTheFortieth() {
        TermOffice x = Offices.easy(10);
        for (int i = 0; i < 39; i++) {
            Offices.appoint(x, i % 10);
            x.pass(10);
        }
        Offices.appoint(x, 9);
        Offices.deeds(x, 3);
        return x;
    }

    private static TermOffice voterGone() {
        TermOffice x = Offices.opened(3, 0);
        x.setPresent(2, false);
        Offices.write(x, "0>");
        return x;
    }

    private static TermOffice bufferFull() {
        TermOffice x = Offices.opened(3, 0);
        Offices.write(x, "0".repeat(40));
        return x;
    }

    private static void theOneListedFirst() {
        EDGES.sentence("ERRORS", "If several errors apply to a call, the one listed first is returned.");
        EDGES.due("join: BAD, FULL", Offices.withMembers(10).join(997), BAD);
        EDGES.due("open: STATE, FULL", inTheFortieth().open(), STATE);
        EDGES.due("nominate: BAD, STATE", Offices.easy(2).nominate(2), BAD);
        EDGES.due("nominate: STATE, LIMIT", candidateAtTheLimit().nominate(0), STATE);
        EDGES.due("cast: BAD, STATE and an error", voteless().cast(3), BAD);
        EDGES.due("cast: STATE, an error", voterGone().cast(2), STATE);
        EDGES.due("tally: BAD, NONE", Offices.ledBy(0, 2).tally(1, 1), BAD);
        EDGES.due("ballot: BAD, STATE", Offices.easy(2).ballot(2, 0), BAD);
        EDGES.due("ballot: BAD, STATE", Offices.easy(2).ballot(0, -1), BAD);
        EDGES.due("ballot: STATE, NONE", Offices.easy(2).ballot(0, 9), STATE);
        EDGES.due("sign: BAD, STATE", Offices.easy(2).sign(2, true), BAD);
        EDGES.due("grade: BAD, STATE, FORGED", Offices.ledBy(0, 2).grade(1, 1, 11, -1), BAD);
        EDGES.due("grade: STATE, FORGED", Offices.ledBy(0, 2).grade(1, 1, 10, -1), STATE);
        EDGES.due("grade: FORGED", Offices.afterATermOf(0, 2).grade(1, 1, 10, -1), FORGED);
        EDGES.due("points: BAD, NONE", Offices.ledBy(0, 2).points(2, 1), BAD);
        EDGES.due("event: BAD, NONE", new TermOffice().event(0, 3), BAD);
        EDGES.due("type: BAD, FULL", bufferFull().type(127), BAD);
        EDGES.due("pass: BAD", new TermOffice().pass(1001), BAD);
    }

    private static TermOffice voteless() {
        TermOffice x = Offices.easy(3);
        Offices.write(x, "?");
        return x;
    }

    private static TermOffice halfSigned() {
        TermOffice x = Offices.ledBy(0, 6);
        x.sign(1, true);
        x.setPresent(2, false);
        Offices.deeds(x, 3);
        return x;
    }

    private static TermOffice halfVoted() {
        TermOffice x = Offices.afterATermOf(0, 6);
        x.setPresent(5, false);
        x.set(2, 1);
        x.open();
        Offices.nominate(x, 1, 2, 4);
        Offices.cast(x, 0, "4>1");
        Offices.cast(x, 4, "2");
        Offices.write(x, "1>2");
        return x;
    }

    private static List<Supplier<TermOffice>> states() {
        return List.of(TermOffice::new, () -> Offices.easy(6), () -> Offices.withMembers(10),
            ErrorsEdgesTest::halfSigned, ErrorsEdgesTest::halfVoted, ErrorsEdgesTest::voterGone,
            ErrorsEdgesTest::bufferFull, ErrorsEdgesTest::candidateAtTheLimit,
            ErrorsEdgesTest::inTheFortieth, () -> Offices.afterATermOf(0, 6), () -> Offices.opened(2));
    }

    private static void addTo(List<Call> calls, String name, ToIntFunction<TermOffice> asked) {
        calls.add(new Call(name, asked));
    }

    /** All acts, with arguments in and out of their ranges. */
    private static List<Call> allActs() {
        List<Call> calls = new ArrayList<>();
        for (int n : NUMBERS) {
            for (int s = -1; s <= 6; s++) {
                int setting = s;
                addTo(calls, "set(" + s + ", " + n + ")", o -> o.set(setting, n));
            }
            addTo(calls, "join(" + n + ")", o -> o.join(n));
            addTo(calls, "setPresent(" + n + ", true)", o -> o.setPresent(n, true));
            addTo(calls, "setPresent(" + n + ", false)", o -> o.setPresent(n, false));
            addTo(calls, "pass(" + n + ")", o -> o.pass(n));
            addTo(calls, "nominate(" + n + ")", o -> o.nominate(n));
            addTo(calls, "cast(" + n + ")", o -> o.cast(n));
            addTo(calls, "sign(" + n + ", true)", o -> o.sign(n, true));
            addTo(calls, "sign(" + n + ", false)", o -> o.sign(n, false));
            for (int term = 0; term <= 2; term++) {
                int t = term;
                addTo(calls, "grade(" + n + ", " + t + ", 6)", o -> Offices.grade(o, n, t, 6));
                addTo(calls, "grade(1, " + t + ", " + n + ")", o -> Offices.grade(o, 1, t, n));
                addTo(calls, "grade(1, " + t + ", 6, " + n + ")", o -> o.grade(1, t, 6, n));
            }
        }
        addTo(calls, "open()", o -> o.open());
        addTo(calls, "close()", o -> o.close());
        addTo(calls, "deed(true)", o -> o.deed(true));
        addTo(calls, "deed(false)", o -> o.deed(false));
        return calls;
    }

    /** No state is such that a deed's answer could be taken for an error. */
    private static boolean isError(int answer) {
        return answer == BAD || answer == STATE || answer == FULL || answer == LIMIT || answer == FORGED
            || answer <= -100;
    }

    private void everyCall() {
        for (Supplier<TermOffice> state : states()) {
            for (Call call : allActs()) {
                look(call, state);
            }
        }
        EDGES.due("many refusals: " + refusals, refusals > 1000 ? 1 : 0, 1);
        EDGES.due("many acts: " + acts, acts > 500 ? 1 : 0, 1);
    }

    private void look(Call call, Supplier<TermOffice> state) {
        int answer = call.asked().applyAsInt(state.get());
        if (isError(answer)) {
            refusals++;
            EDGES.sentence("ERRORS", "A call that returns an error changes nothing.");
            EDGES.refused(call.name(), answer, state, call.asked());
        } else {
            acts++;
            EDGES.sentence("HISTORY", "Each call described as an act that returns no error adds the state before it");
            EDGES.isAct(call.name(), answer, state, call.asked());
        }
    }
}
