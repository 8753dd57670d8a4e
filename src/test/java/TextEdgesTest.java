/** BALLOT TEXTS and the promises 8, 25 and 26, an edge at a time. */
public final class TextEdgesTest {
    private static final Edges EDGES = new Edges();
    private static final int BAD = TermOffice.BAD;
    private static final int STATE = TermOffice.STATE;
    private static final int FULL = TermOffice.FULL;
    private static final int NONE = TermOffice.NONE;
    private static final int SMALLEST = Integer.MIN_VALUE;
    private static final int GREATEST = Integer.MAX_VALUE;
    private static final String ALL = "9>8>7>6>5>4>3>2>1>0";

    public static void main(String[] args) {
        theBuffer();
        howABallotIsWritten();
        noDigit();
        noSignBetween();
        noCandidate();
        inTheTextBefore();
        theEndOfTheText();
        theFirstErrorCounts();
        casting();
        theBufferIsEmptyThen();
        castingRefused();
        castingWithErrors();
        typing();
        typingRefused();
        clearing();
        EDGES.end();
    }

    private static TermOffice written(TermOffice x, String text) {
        Offices.write(x, text);
        return x;
    }

    /** Candidates are 0, 1 and 2 of 4 members. */
    private static void errorAt(String text, int place) {
        TermOffice x = written(Offices.opened(4, 0, 1, 2), text);
        EDGES.due("the text " + text, x.cast(3), -100 - place);
        EDGES.due("is as long as before: " + text, x.clear(), text.length());
    }

    private static void theBuffer() {
        EDGES.sentence("BALLOT TEXTS",
            "There is a buffer of at most 40 characters with codes from 32 to 126, initially empty.");
        TermOffice x = new TermOffice();
        EDGES.due("initially", x.clear(), 0);
        EDGES.due("the least code", x.type(32), 1);
        EDGES.due("the greatest code", x.type(126), 2);
        x.clear();
        for (int i = 1; i <= 40; i++) {
            EDGES.due("the character " + i, x.type(31 + i), i);
        }
        EDGES.due("a 41st", x.type(48), FULL);
        EDGES.due("there are 40", x.clear(), 40);
        for (int c = 32; c <= 126; c++) {
            EDGES.due("the code " + c, x.type(c), (c - 32) % 40 + 1);
            if ((c - 32) % 40 == 39) {
                x.clear();
            }
        }
    }

    private static void howABallotIsWritten() {
        EDGES.sentence("BALLOT TEXTS",
            "A ballot is written as the digits of its candidates with \">\" between them.");
        TermOffice x = Offices.opened(10, 0, 1, 2, 3, 4, 5, 6, 7, 8, 9);
        for (int m = 0; m < 10; m++) {
            EDGES.due("the digit " + m, Offices.cast(x, m, String.valueOf(m)), m + 1);
            EDGES.due("its candidate", x.ballot(m, 0), m);
            EDGES.due("and no more", x.ballot(m, 1), NONE);
        }
        EDGES.due("two", Offices.cast(x, 0, "3>7"), 10);
        EDGES.due("the first of two", x.ballot(0, 0), 3);
        EDGES.due("the second of two", x.ballot(0, 1), 7);
        EDGES.due("all", Offices.cast(x, 1, ALL), 10);
        for (int k = 0; k < 10; k++) {
            EDGES.due("place " + k, x.ballot(1, k), 9 - k);
        }
    }

    private static void noDigit() {
        EDGES.sentence("BALLOT TEXTS", "The error place of a text is the index of the first character that is "
            + "not a digit where a digit must stand");
        String[] noDigits = {" ", "!", "/", ":", ">", "?", "A", "P", "p", "a", "~", "-"};
        for (String c : noDigits) {
            errorAt(c, 0);
            errorAt(c + ">1", 0);
            errorAt("0>" + c, 2);
            errorAt("0>1>" + c + ">2", 4);
        }
    }

    private static void noSignBetween() {
        EDGES.sentence("BALLOT TEXTS", "not \">\" where this must stand");
        String[] others = {" ", "=", "?", "<", "0", "1", "9", "~", ","};
        for (String c : others) {
            errorAt("0" + c, 1);
            errorAt("0" + c + "1", 1);
            errorAt("0>1" + c + "2", 3);
            errorAt("0>1>2" + c, 5);
        }
    }

    private static void noCandidate() {
        EDGES.sentence("BALLOT TEXTS", "or a digit of a member who is no candidate");
        errorAt("3", 0);
        errorAt("0>3", 2);
        errorAt("0>1>3>2", 4);
        errorAt("4", 0);
        errorAt("9", 0);
        errorAt("0>9", 2);
        TermOffice x = Offices.opened(2);
        EDGES.due("nobody is a candidate", written(x, "0").cast(0), -100);
        x.nominate(0);
        EDGES.due("one is: the same text", x.cast(0), 1);
        TermOffice y = written(Offices.opened(3, 0, 1), "0>1");
        y.setPresent(1, false);
        EDGES.due("no candidate any more", y.cast(0), -102);
    }

    private static void inTheTextBefore() {
        EDGES.sentence("BALLOT TEXTS", "or stands in the text before");
        errorAt("0>0", 2);
        errorAt("0>1>0", 4);
        errorAt("0>1>1", 4);
        errorAt("2>1>0>2", 6);
        errorAt("2>1>0>0", 6);
        EDGES.due("all of ten, and one again",
            written(Offices.opened(10, 0, 1, 2, 3, 4, 5, 6, 7, 8, 9), ALL + ">9").cast(0), -120);
    }

    private static void theEndOfTheText() {
        EDGES.sentence("BALLOT TEXTS", "or the length of the text if it ends where a digit must stand.");
        errorAt("", 0);
        errorAt("0>", 2);
        errorAt("0>1>", 4);
        errorAt("0>1>2>", 6);
        EDGES.due("behind all of ten",
            written(Offices.opened(10, 0, 1, 2, 3, 4, 5, 6, 7, 8, 9), ALL + ">").cast(0), -120);
        EDGES.due("a whole buffer", written(Offices.opened(10, 0, 1, 2, 3, 4, 5, 6, 7, 8, 9),
            (ALL + ">" + ALL + ">").substring(0, 40)).cast(0), -120);
        EDGES.due("a whole buffer of no digits", written(Offices.opened(10, 0),
            "0" + ">".repeat(39)).cast(0), -102);
    }

    private static void theFirstErrorCounts() {
        EDGES.sentence("BALLOT TEXTS", "the index of the first character that is not a digit where a digit must "
            + "stand, not \">\" where this must stand, or a digit of a member who is no candidate or stands in "
            + "the text before, or the length of the text");
        errorAt("3?", 0);
        errorAt("?3", 0);
        errorAt("0?3", 1);
        errorAt("0>0?", 2);
        errorAt("0>3>0>", 2);
        errorAt("0>1??", 3);
        errorAt("00", 1);
        errorAt("0>10", 3);
        errorAt(">>", 0);
        errorAt("0>>", 2);
    }

    private static TermOffice readyToVote(String text) {
        TermOffice x = Offices.opened(4, 0, 1, 2);
        Offices.cast(x, 2, "2>0");
        return written(x, text);
    }

    private static void casting() {
        EDGES.sentence("Promise 8", "Lets a member give in the buffer as a ballot.");
        TermOffice x = readyToVote("1>2>0");
        x.cast(3);
        int[] given = {1, 2, 0, NONE};
        for (int k = 0; k < 4; k++) {
            EDGES.due("ballot(3, " + k + ")", x.ballot(3, k), given[k]);
        }
        EDGES.due("the other's stays", x.ballot(2, 1), 0);
        EDGES.sentence("Promise 8", "This is an act.");
        TermOffice y = readyToVote("1>2>0");
        EDGES.due("cast(3)", y.cast(3), 2);
        EDGES.due("undo()", y.undo(), 4);
        EDGES.due("no ballot", y.ballot(3, 0), NONE);
        EDGES.due("the other's is there", y.ballot(2, 0), 2);
        EDGES.due("undo() again", y.undo(), 3);
        EDGES.due("no other's", y.ballot(2, 0), NONE);
        TermOffice z = readyToVote("1");
        z.cast(2);
        z.undo();
        EDGES.due("the earlier one is back", z.ballot(2, 0), 2);
        EDGES.due("as long as it was", z.ballot(2, 1), 0);
        EDGES.sentence("Promise 8", "`member`: a member");
        EDGES.due("the first", readyToVote("0").cast(0), 2);
        EDGES.due("the last", readyToVote("0").cast(3), 2);
        EDGES.sentence("Promise 8", "Returns the number of ballots");
        TermOffice w = Offices.opened(10, 0);
        for (int m = 0; m < 10; m++) {
            EDGES.due("cast(" + (9 - m) + ")", written(w, "0").cast(9 - m), m + 1);
        }
        EDGES.due("a replaced one is no new one", written(w, "0").cast(5), 10);
    }

    private static void theBufferIsEmptyThen() {
        EDGES.sentence("Promise 8", "The buffer is empty then.");
        TermOffice x = readyToVote("1>2");
        x.cast(3);
        EDGES.due("empty", x.clear(), 0);
        TermOffice y = readyToVote("1>2");
        y.cast(3);
        EDGES.due("nothing for the next one", y.cast(0), -100);
        EDGES.due("typing begins anew", y.type('0'), 1);
        EDGES.due("cast(0)", y.cast(0), 3);
        EDGES.due("of one candidate", y.ballot(0, 1), NONE);
        TermOffice z = readyToVote("1>2");
        z.cast(3);
        z.undo();
        EDGES.due("an undo does not fill it", z.clear(), 0);
    }

    private static TermOffice absentVoter(String text) {
        TermOffice x = readyToVote(text);
        x.setPresent(3, false);
        return x;
    }

    private static void castingRefused() {
        EDGES.sentence("Promise 8", "BAD if there is no such member");
        int[] wrong = {-1, 4, 10, NONE, SMALLEST, GREATEST};
        for (int m : wrong) {
            EDGES.refused("cast(" + m + ")", BAD, () -> readyToVote("0>1"), o -> o.cast(m));
            EDGES.refused("BAD before STATE", BAD, () -> written(Offices.easy(4), "0"), o -> o.cast(m));
            EDGES.refused("BAD before an error", BAD, () -> readyToVote("0>"), o -> o.cast(m));
        }
        EDGES.refused("of none", BAD, () -> written(Offices.opened(0), "0"), o -> o.cast(0));
        EDGES.sentence("Promise 8", "STATE if no election is open, or the member is absent");
        EDGES.refused("not open", STATE, () -> written(Offices.easy(4), "0"), o -> o.cast(0));
        EDGES.refused("led", STATE, () -> written(Offices.ledBy(0, 4), "0"), o -> o.cast(0));
        EDGES.refused("absent", STATE, () -> absentVoter("0>1"), o -> o.cast(3));
        EDGES.refused("not open, before an error", STATE, () -> written(Offices.easy(4), "?"), o -> o.cast(0));
        EDGES.refused("absent, before an error", STATE, () -> absentVoter("?"), o -> o.cast(3));
        EDGES.refused("absent, an empty text", STATE, () -> absentVoter(""), o -> o.cast(3));
    }

    private static void castingWithErrors() {
        EDGES.sentence("Promise 8", "-100 minus the error place if the text has an error.");
        String[] texts = {"", "?", "0?", "0>", "0>0", "0>1>3", "0>1>2>"};
        int[] errors = {-100, -100, -101, -102, -102, -104, -106};
        for (int i = 0; i < texts.length; i++) {
            String text = texts[i];
            EDGES.refused("cast " + text, errors[i], () -> readyToVote(text), o -> o.cast(3));
            EDGES.refused("cast instead " + text, errors[i], () -> readyToVote(text), o -> o.cast(2));
        }
        TermOffice x = readyToVote("0>1>3");
        EDGES.due("an error", x.cast(2), -104);
        EDGES.due("the same error", x.cast(2), -104);
        x.nominate(3);
        EDGES.due("the text was kept", x.cast(2), 1);
        EDGES.due("whole", x.ballot(2, 2), 3);
    }

    private static void typing() {
        EDGES.sentence("Promise 25", "Appends a character to the buffer.");
        TermOffice x = Offices.opened(3, 0, 1);
        x.type('1');
        x.type('>');
        x.type('0');
        x.cast(2);
        EDGES.due("the first", x.ballot(2, 0), 1);
        EDGES.due("the last", x.ballot(2, 1), 0);
        EDGES.due("typing is no act", x.undo(), 4);
        EDGES.due("undone is the casting", x.ballot(2, 0), NONE);
        EDGES.sentence("Promise 25", "`c`: its code, 32 to 126");
        EDGES.due("32", new TermOffice().type(32), 1);
        EDGES.due("126", new TermOffice().type(126), 1);
        EDGES.sentence("Promise 25", "Returns the number of characters in the buffer");
        TermOffice y = new TermOffice();
        for (int i = 1; i <= 40; i++) {
            EDGES.due("the character " + i, y.type(62), i);
        }
        EDGES.due("no history of it", y.undo(), NONE);
        EDGES.due("which stays", y.clear(), 40);
    }

    private static TermOffice typed(int count) {
        return written(Offices.easy(2), "0".repeat(count));
    }

    private static void typingRefused() {
        EDGES.sentence("Promise 25", "BAD if c is not in its range");
        int[] wrong = {31, 127, 0, -1, 128, 48 + 256, 48 + 65536, SMALLEST, GREATEST};
        for (int c : wrong) {
            EDGES.refused("type(" + c + ")", BAD, () -> typed(0), o -> o.type(c));
            EDGES.refused("type(" + c + "), one before", BAD, () -> typed(39), o -> o.type(c));
            EDGES.refused("BAD before FULL", BAD, () -> typed(40), o -> o.type(c));
        }
        EDGES.sentence("Promise 25", "FULL if there are 40 characters.");
        EDGES.due("39 are not full", typed(39).type(126), 40);
        EDGES.refused("the least code", FULL, () -> typed(40), o -> o.type(32));
        EDGES.refused("the greatest code", FULL, () -> typed(40), o -> o.type(126));
        TermOffice x = written(Offices.opened(2, 0, 1), "0>1" + " ".repeat(37));
        x.type('>');
        EDGES.due("the text stays whole", x.cast(0), -103);
        TermOffice y = written(Offices.opened(2, 0, 1), "0>");
        y.type(127);
        y.type('1');
        EDGES.due("a refused character leaves no gap", y.cast(0), 1);
    }

    private static void clearing() {
        EDGES.sentence("Promise 26", "Empties the buffer.");
        TermOffice x = written(Offices.opened(2, 0), "0");
        x.clear();
        EDGES.due("no text", x.cast(0), -100);
        EDGES.due("typing begins anew", x.type('0'), 1);
        EDGES.due("cast", x.cast(0), 1);
        EDGES.due("clear is no act, nor typing", x.undo(), 4);
        EDGES.due("undone is the casting", x.ballot(0, 0), NONE);
        EDGES.sentence("Promise 26", "Returns the number of characters that it had.");
        EDGES.due("none", new TermOffice().clear(), 0);
        EDGES.due("one", typed(1).clear(), 1);
        EDGES.due("forty", typed(40).clear(), 40);
        TermOffice y = typed(5);
        y.clear();
        EDGES.due("none any more", y.clear(), 0);
        TermOffice z = typed(40);
        z.type(48);
        EDGES.due("forty, one was refused", z.clear(), 40);
    }
}
