/** Promises 8, 25 and 26: type, clear, and the error places that cast tells. */
public final class TextTest {
    private static final Checks CHECKS = new Checks();

    public static void main(String[] args) {
        typing();
        clearing();
        errorPlaces();
        longTexts();
        theBufferAndUndo();
        CHECKS.end();
    }

    private static void typing() {
        TermOffice x = new TermOffice();
        int[] wrong = {31, 127, -1, 0, Integer.MIN_VALUE, Integer.MAX_VALUE};
        for (int c : wrong) {
            CHECKS.due("type(" + c + ")", x.type(c), TermOffice.BAD);
        }
        CHECKS.due("type(32)", x.type(32), 1);
        CHECKS.due("type(126)", x.type(126), 2);
        for (int i = 3; i <= 40; i++) {
            CHECKS.due("type the character " + i, x.type(48), i);
        }
        CHECKS.due("type a 41st", x.type(48), TermOffice.FULL);
        CHECKS.due("BAD stands before FULL", x.type(127), TermOffice.BAD);
        CHECKS.due("typing is no act", x.undo(), TermOffice.NONE);
        CHECKS.due("clear()", x.clear(), 40);
        CHECKS.due("type again", x.type(48), 1);
    }

    private static void clearing() {
        TermOffice x = Offices.withMembers(1);
        CHECKS.due("clear() of nothing", x.clear(), 0);
        Offices.write(x, "ab");
        CHECKS.due("clear()", x.clear(), 2);
        CHECKS.due("clear() twice", x.clear(), 0);
        CHECKS.due("clear is no act", Offices.undoable(x), 1);
    }

    private static void errorPlaces() {
        String[] texts = {"", "0>", "0>1>", " 0", "0 >1", "01", "0>>1", ">0", "0>0", "0>1>0",
            "2", "0>2", "0>9", "a", "0>a", "0a", "/", ":", "0>1>", "0>1>4", "0>1 ", "0=1", "0?1",
            "P", "0>Q", "p>1"};
        int[] places = {0, 2, 4, 0, 1, 1, 2, 0, 2, 4,
            0, 2, 2, 0, 2, 1, 0, 0, 4, 4, 3, 1, 1,
            0, 2, 0};
        TermOffice x = Offices.withMembers(4);
        x.open();
        Offices.nominate(x, 0, 1);
        for (int i = 0; i < texts.length; i++) {
            CHECKS.due("cast " + texts[i], Offices.cast(x, 3, texts[i]), -100 - places[i]);
            CHECKS.due("the text stays: " + texts[i], x.clear(), texts[i].length());
        }
        CHECKS.due("no ballot was given in", x.ballot(3, 0), TermOffice.NONE);
        CHECKS.due("errors are no acts", x.undo(), 4);
        CHECKS.due("undone is the second nomination", x.member(1, 4), 0);
        CHECKS.due("a digit of nobody nominated any more", Offices.cast(x, 3, "0>1"), -102);
        CHECKS.due("a ballot without error", Offices.cast(x, 3, "0"), 1);
        CHECKS.due("the buffer is empty then", x.clear(), 0);
    }

    private static void longTexts() {
        TermOffice x = Offices.withMembers(10);
        x.open();
        Offices.nominate(x, 0, 1, 2, 3, 4, 5, 6, 7, 8, 9);
        String all = "9>8>7>6>5>4>3>2>1>0";
        CHECKS.due("one too many", Offices.cast(x, 0, all + ">0"), -120);
        CHECKS.due("ends with >", Offices.cast(x, 0, all + ">"), -120);
        CHECKS.due("a sign behind", Offices.cast(x, 0, all + " "), -119);
        CHECKS.due("forty signs", Offices.cast(x, 0, (all + ">" + all + ">").substring(0, 40)), -120);
        CHECKS.due("all candidates", Offices.cast(x, 0, all), 1);
        for (int k = 0; k < 10; k++) {
            CHECKS.due("ballot(0, " + k + ")", x.ballot(0, k), 9 - k);
        }
        Offices.cast(x, 1, "3");
        Offices.cast(x, 9, all);
        CHECKS.due("ballot(0, 10)", x.ballot(0, 10), TermOffice.NONE);
        CHECKS.due("ballot(9, 10)", x.ballot(9, 10), TermOffice.NONE);
        x.setPresent(8, false);
        CHECKS.due("8 is gone from the long ballot", x.ballot(0, 1), 7);
        CHECKS.due("its last candidate", x.ballot(0, 8), 0);
        CHECKS.due("is shorter by one", x.ballot(0, 9), TermOffice.NONE);
    }

    private static void theBufferAndUndo() {
        TermOffice x = Offices.withMembers(2);
        x.open();
        x.nominate(0);
        Offices.cast(x, 0, "0");
        x.undo();
        CHECKS.due("undo does not fill the buffer", x.clear(), 0);
        Offices.write(x, "0>1");
        x.undo();
        CHECKS.due("undo does not empty the buffer", x.clear(), 3);
    }
}
