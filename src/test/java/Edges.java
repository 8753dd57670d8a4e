import java.util.List;
import java.util.function.Function;
import java.util.function.Supplier;
import java.util.function.ToIntFunction;

/** Checks that stand under the sentence of the document that they look at. */
final class Edges {
    private static final List<Function<TermOffice, String>> WAYS_TO_READ = List.of(Answers::readings,
        Answers::settings, Answers::buffer, Answers::history, Answers::future);

    private final Checks checks = new Checks();
    private String label = "";

    /** DocumentTest looks whether the document says so, and whether each of its sentences is here. */
    void sentence(String section, String quoted) {
        label = section + ": " + quoted;
    }

    void due(String call, long got, long want) {
        checks.due("[" + label + "] " + call, got, want);
    }

    private void same(String what, String got, String want) {
        checks.holds("[" + label + "] " + what + ": " + got + " is " + want, got.equals(want));
    }

    /** Two offices, of which one was asked, cannot be told from one another. */
    void leavesAll(String call, Supplier<TermOffice> made, ToIntFunction<TermOffice> asked) {
        for (Function<TermOffice, String> way : WAYS_TO_READ) {
            TermOffice one = made.get();
            asked.applyAsInt(one);
            same(call + " leaves all as it was", way.apply(one), way.apply(made.get()));
        }
    }

    void refused(String call, int error, Supplier<TermOffice> made, ToIntFunction<TermOffice> asked) {
        due(call, asked.applyAsInt(made.get()), error);
        leavesAll(call, made, asked);
    }

    /** The call adds the state before it to the history, and undo restores this state. */
    void isAct(String call, int answer, Supplier<TermOffice> made, ToIntFunction<TermOffice> asked) {
        int before = Offices.undoable(made.get());
        TermOffice x = made.get();
        due(call, asked.applyAsInt(x), answer);
        due(call + ": undo()", x.undo(), Math.min(before, 4));
        same(call + " undone", Answers.readings(x), Answers.readings(made.get()));
        same(call + " undone", Answers.settings(x), Answers.settings(made.get()));
        TermOffice y = made.get();
        asked.applyAsInt(y);
        y.undo();
        same(call + " undone", Answers.future(y), Answers.future(made.get()));
    }

    void end() {
        checks.end();
    }
}
