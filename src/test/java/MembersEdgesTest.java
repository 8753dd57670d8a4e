/** MEMBERS, SETTINGS, TIME and the promises 1 to 5 and 22, an edge at a time. */
public final class MembersEdgesTest {
    private static final Edges EDGES = new Edges();
    private static final int BAD = TermOffice.BAD;
    private static final int FULL = TermOffice.FULL;
    private static final int STATE = TermOffice.STATE;
    private static final int NONE = TermOffice.NONE;
    private static final int SMALLEST = Integer.MIN_VALUE;
    private static final int GREATEST = Integer.MAX_VALUE;

    public static void main(String[] args) {
        tenMembers();
        keys();
        rangeOfTheLength();
        rangeOfTheLimitInAll();
        rangeOfTheLimitInARow();
        rangeOfTheShare();
        rangeOfTheQuorum();
        rangeOfTheMemory();
        timeBegins();
        newObject();
        setting();
        settingNumbers();
        settingValues();
        joining();
        joiningRefused();
        presence();
        presenceAsItIs();
        presenceOfNobody();
        passing();
        passingRefused();
        passingTooFar();
        timeIsTold();
        EDGES.end();
    }

    private static void tenMembers() {
        EDGES.sentence("MEMBERS", "There are at most 10 members, numbered from 0.");
        TermOffice x = new TermOffice();
        for (int m = 0; m < 10; m++) {
            EDGES.due("no member yet", x.member(m, 2), BAD);
            EDGES.due("join", x.join(m), m);
            EDGES.due("a member now", x.member(m, 2), 1);
        }
        EDGES.due("no member 10", x.member(10, 2), BAD);
        EDGES.refused("an eleventh", FULL, () -> Offices.withMembers(10), o -> o.join(0));
        TermOffice y = Offices.withMembers(10);
        y.setPresent(3, false);
        EDGES.due("an absent member is a member", y.join(0), FULL);
    }

    private static void keys() {
        EDGES.sentence("MEMBERS", "A member has a key (0 to 996) and is present or absent.");
        TermOffice x = Offices.easy(1);
        EDGES.due("the smallest key", x.join(0), 1);
        EDGES.due("the greatest key", x.join(996), 2);
        EDGES.due("a key may be there twice", x.join(996), 3);
        Offices.appoint(x, 0);
        x.pass(10);
        EDGES.due("31 + 17 + 0 + 0", x.grade(1, 1, 0, 48), 1);
        EDGES.due("31 + 34 + 0 + 996 - 997", x.grade(2, 1, 0, 64), 2);
        EDGES.due("31 + 51 + 0 + 996 - 997", x.grade(3, 1, 0, 81), 3);
        x.setPresent(2, false);
        EDGES.due("absent", x.member(2, 2), 0);
        EDGES.due("present", x.member(3, 2), 1);
    }

    /** Looks at the values at both ends of the range, and at those beyond them. */
    private static void range(int s, int least, int greatest, int initial) {
        TermOffice x = new TermOffice();
        EDGES.due("the initial value", x.set(s, least), initial);
        EDGES.due("the least value stood", x.set(s, greatest), least);
        EDGES.due("the greatest value stood", x.set(s, initial), greatest);
        int[] beyond = {least - 1, greatest + 1, SMALLEST, GREATEST};
        for (int value : beyond) {
            EDGES.refused("set to " + value, BAD, TermOffice::new, o -> o.set(s, value));
            EDGES.refused("set to " + value, BAD, () -> Offices.ledBy(0, 3), o -> o.set(s, value));
        }
    }

    private static void overAfter(TermOffice x, int length) {
        Offices.appoint(x, 0);
        x.pass(length - 1);
        EDGES.due("led one unit before " + length, x.office(), 2);
        x.pass(1);
        EDGES.due("over after " + length, x.office(), 1);
    }

    private static void rangeOfTheLength() {
        EDGES.sentence("SETTINGS", "0 the length of a term, 10 to 1000 (100)");
        range(0, 10, 1000, 100);
        int[] lengths = {10, 1000};
        for (int length : lengths) {
            TermOffice x = Offices.easy(2);
            x.set(0, length);
            overAfter(x, length);
        }
        TermOffice y = Offices.withMembers(2);
        y.set(4, 0);
        overAfter(y, 100);
    }

    /** Member 0 leads as often as the limit lets it, member 1 in between. */
    private static void ledInAll(TermOffice x, int limit) {
        for (int led = 0; led < limit; led++) {
            EDGES.due("can lead, having led " + led, x.member(0, 3), 1);
            EDGES.due("leads", Offices.appoint(x, 0), 0);
            x.setPresent(0, false);
            x.setPresent(0, true);
            if (led + 1 < limit) {
                EDGES.due("member 1 between", Offices.appoint(x, 1), 1);
                x.setPresent(1, false);
                x.setPresent(1, true);
            }
        }
        EDGES.due("cannot lead, having led " + limit, x.member(0, 3), 0);
    }

    private static void rangeOfTheLimitInAll() {
        EDGES.sentence("SETTINGS", "1 the limit of terms in all, 1 to 9 (2)");
        range(1, 1, 9, 2);
        int[] limits = {1, 9};
        for (int limit : limits) {
            TermOffice x = Offices.easy(2);
            x.set(1, limit);
            ledInAll(x, limit);
        }
        TermOffice y = Offices.withMembers(2);
        y.set(2, 9);
        y.set(4, 0);
        ledInAll(y, 2);
    }

    private static void ledInARow(TermOffice x, int limit) {
        for (int led = 0; led < limit; led++) {
            EDGES.due("can lead after " + led + " in a row", x.member(0, 3), 1);
            EDGES.due("leads", Offices.appoint(x, 0), 0);
            x.setPresent(0, false);
            x.setPresent(0, true);
        }
        EDGES.due("cannot lead after " + limit + " in a row", x.member(0, 3), 0);
    }

    private static void rangeOfTheLimitInARow() {
        EDGES.sentence("SETTINGS", "2 the limit of terms in a row, 1 to 9 (1)");
        range(2, 1, 9, 1);
        int[] limits = {1, 8, 9};
        for (int limit : limits) {
            TermOffice x = Offices.easy(2);
            x.set(2, limit);
            ledInARow(x, limit);
        }
        TermOffice y = Offices.withMembers(2);
        y.set(1, 9);
        y.set(4, 0);
        ledInARow(y, 1);
    }

    private static void rangeOfTheShare() {
        EDGES.sentence("SETTINGS", "3 the share for a recall in percent, 1 to 100 (50)");
        range(3, 1, 100, 50);
        TermOffice x = Offices.ledBy(0, 10);
        x.set(3, 1);
        EDGES.due("one of nine, 1 percent", x.sign(5, true), 0);
        EDGES.due("recalled", x.term(1, 5), 1);
        TermOffice y = Offices.ledBy(0, 10);
        y.set(3, 100);
        for (int m = 1; m <= 8; m++) {
            EDGES.due("not yet all of nine", y.sign(m, true), m);
        }
        EDGES.due("all of nine, 100 percent", y.sign(9, true), 0);
        EDGES.due("recalled then", y.term(1, 5), 1);
        TermOffice z = Offices.ledBy(0, 5);
        EDGES.due("one of four", z.sign(1, true), 1);
        EDGES.due("two of four, 50 percent", z.sign(2, true), 0);
    }

    private static void rangeOfTheQuorum() {
        EDGES.sentence("SETTINGS", "4 the quorum in percent, 0 to 100 (50)");
        range(4, 0, 100, 50);
        EDGES.due("0 percent, no ballot", Offices.opened(10, 4).close(), 4);
        TermOffice x = Offices.opened(10, 4);
        x.set(4, 100);
        for (int m = 0; m < 9; m++) {
            Offices.cast(x, m, "4");
        }
        EDGES.due("100 percent, nine of ten", x.close(), NONE);
        x.undo();
        Offices.cast(x, 9, "4");
        EDGES.due("100 percent, all", x.close(), 4);
        TermOffice y = Offices.withMembers(10);
        y.open();
        y.nominate(4);
        for (int m = 0; m < 4; m++) {
            Offices.cast(y, m, "4");
        }
        EDGES.due("initially, four of ten", y.close(), NONE);
        y.undo();
        Offices.cast(y, 4, "4");
        EDGES.due("initially, five of ten", y.close(), 4);
    }

    /** Nine terms of member 0, the first ones with the greater scores. */
    private static TermOffice nineTerms() {
        TermOffice x = Offices.easy(2);
        for (int i = 0; i < 9; i++) {
            Offices.appoint(x, 0);
            Offices.deeds(x, 8 - i);
            x.pass(10);
        }
        return x;
    }

    private static void rangeOfTheMemory() {
        EDGES.sentence("SETTINGS", "5 the memory, 1 to 10 (3)");
        range(5, 1, 10, 3);
        TermOffice x = nineTerms();
        EDGES.due("initially, 50, 55 and 60", x.member(0, 0), 55);
        x.set(5, 1);
        EDGES.due("1, the latest alone", x.member(0, 0), 50);
        x.set(5, 2);
        EDGES.due("2, 50 and 55", x.member(0, 0), 52);
        x.set(5, 8);
        EDGES.due("8, 50 to 85", x.member(0, 0), 67);
        x.set(5, 9);
        EDGES.due("9, 50 to 90", x.member(0, 0), 70);
        x.set(5, 10);
        EDGES.due("10, of which there are 9", x.member(0, 0), 70);
    }

    private static void timeBegins() {
        EDGES.sentence("TIME", "TIME is a number, initially 0.");
        EDGES.due("time()", new TermOffice().time(), 0);
    }

    private static void newObject() {
        EDGES.sentence("Promise 1", "Creates an office without members.");
        TermOffice x = new TermOffice();
        for (int m = -1; m <= 10; m++) {
            EDGES.due("member(" + m + ", 2)", x.member(m, 2), BAD);
        }
        EDGES.due("no term", x.term(1, 0), BAD);
        EDGES.due("no round", x.tally(0, 0), BAD);
        EDGES.due("no event", x.event(0, 0), NONE);
        EDGES.due("rounds()", x.rounds(), 0);
        EDGES.due("no history", x.undo(), NONE);
        EDGES.due("no election", x.close(), STATE);
        EDGES.due("the first one who joins", x.join(3), 0);
        EDGES.due("another office stays without", new TermOffice().member(0, 2), BAD);
    }

    private static void setting() {
        EDGES.sentence("Promise 2", "Sets a setting.");
        TermOffice x = new TermOffice();
        int[] values = {20, 4, 5, 6, 7, 8};
        for (int s = 0; s < 6; s++) {
            x.set(s, values[s]);
        }
        for (int s = 0; s < 6; s++) {
            EDGES.due("each has its own value", x.set(s, values[s]), values[s]);
        }
        EDGES.sentence("Promise 2", "This is an act.");
        int[] previous = {10, 9, 9, 50, 0, 3};
        for (int s = 0; s < 6; s++) {
            int setting = s;
            int value = s == 0 ? 20 : 3;
            EDGES.isAct("set " + s, previous[s], () -> Offices.ledBy(0, 3), o -> o.set(setting, value));
            int same = previous[s];
            EDGES.isAct("set as it is " + s, same, () -> Offices.ledBy(0, 3), o -> o.set(setting, same));
        }
    }

    private static void settingNumbers() {
        EDGES.sentence("Promise 2", "`setting`: 0 to 5");
        EDGES.due("the first", new TermOffice().set(0, 10), 100);
        EDGES.due("the last", new TermOffice().set(5, 10), 3);
        int[] wrong = {-1, 6, SMALLEST, GREATEST};
        for (int s : wrong) {
            EDGES.refused("set(" + s + ", 1)", BAD, () -> Offices.ledBy(0, 3), o -> o.set(s, 1));
            EDGES.refused("set(" + s + ", 10)", BAD, () -> Offices.ledBy(0, 3), o -> o.set(s, 10));
        }
    }

    private static void settingValues() {
        EDGES.sentence("Promise 2", "`value`: the value");
        TermOffice x = new TermOffice();
        x.set(0, 11);
        EDGES.due("not a step beside it", x.set(0, 12), 11);
        EDGES.sentence("Promise 2", "Returns the previous value");
        EDGES.due("12", x.set(0, 12), 12);
        EDGES.due("12 again", x.set(0, 13), 12);
        EDGES.sentence("Promise 2", "BAD if an argument is not in its range.");
        EDGES.due("a value of another range", x.set(1, 100), BAD);
        EDGES.due("0 is for the quorum alone", x.set(4, 0), 50);
        EDGES.due("not for the share", x.set(3, 0), BAD);
        EDGES.due("10 is for the memory", x.set(5, 10), 3);
        EDGES.due("not for the limits", x.set(2, 10), BAD);
        EDGES.due("both wrong", x.set(6, 0), BAD);
        EDGES.due("the previous value is none that was refused", x.set(3, 1), 50);
    }

    private static void joining() {
        EDGES.sentence("Promise 3", "Adds a member, who is present.");
        TermOffice x = Offices.withMembers(1);
        x.setPresent(0, false);
        x.join(1);
        EDGES.due("the new one", x.member(1, 2), 1);
        EDGES.due("the other one stays absent", x.member(0, 2), 0);
        int[] numbers = {50, 0, 1, 1, 0, 0};
        for (int what = 0; what < 6; what++) {
            EDGES.due("member(1, " + what + ")", x.member(1, what), numbers[what]);
        }
        EDGES.sentence("Promise 3", "This is an act.");
        EDGES.isAct("join, the second", 1, () -> Offices.withMembers(1), o -> o.join(5));
        EDGES.isAct("join, the tenth", 9, () -> Offices.withMembers(9), o -> o.join(996));
        EDGES.isAct("join while led", 3, () -> Offices.ledBy(0, 3), o -> o.join(0));
        EDGES.sentence("Promise 3", "Returns the number of the member");
        EDGES.due("the next number, not an absent member's", x.join(1), 2);
        x.undo();
        EDGES.due("the number that an undo set free", x.join(1), 2);
    }

    private static void joiningRefused() {
        EDGES.sentence("Promise 3", "`key`: 0 to 996");
        EDGES.due("0", new TermOffice().join(0), 0);
        EDGES.due("996", new TermOffice().join(996), 0);
        EDGES.sentence("Promise 3", "BAD if key is not in its range");
        int[] wrong = {-1, 997, SMALLEST, GREATEST};
        for (int key : wrong) {
            EDGES.refused("join(" + key + ")", BAD, () -> Offices.ledBy(0, 3), o -> o.join(key));
            EDGES.refused("BAD before FULL", BAD, () -> Offices.withMembers(10), o -> o.join(key));
        }
        EDGES.sentence("Promise 3", "FULL if there are 10 members.");
        EDGES.due("nine are not full", Offices.withMembers(9).join(996), 9);
        EDGES.refused("the smallest key", FULL, () -> Offices.withMembers(10), o -> o.join(0));
        EDGES.refused("the greatest key", FULL, () -> Offices.ledBy(9, 10), o -> o.join(996));
    }

    private static void presence() {
        EDGES.sentence("Promise 4", "Makes a member present or absent.");
        TermOffice x = Offices.withMembers(10);
        for (int m = 0; m < 10; m += 9) {
            EDGES.due("absent", x.setPresent(m, false), 1);
            EDGES.due("member(" + m + ", 2)", x.member(m, 2), 0);
            EDGES.due("the others stay", x.member(4, 2), 1);
            EDGES.due("present", x.setPresent(m, true), 0);
            EDGES.due("member(" + m + ", 2)", x.member(m, 2), 1);
        }
        EDGES.sentence("Promise 4", "`present`: true for present");
        EDGES.due("true", x.setPresent(1, true), 1);
        EDGES.due("is present", x.member(1, 2), 1);
        EDGES.sentence("Promise 4", "Returns 1 if the member was present before, otherwise 0");
        EDGES.due("present, then absent", x.setPresent(1, false), 1);
        EDGES.due("absent, then absent", x.setPresent(1, false), 0);
        EDGES.due("absent, then present", x.setPresent(1, true), 0);
        EDGES.due("present, then present", x.setPresent(1, true), 1);
    }

    /** An election with candidates and ballots, a caretaker, and an absent member. */
    private static TermOffice busy() {
        TermOffice x = Offices.afterATermOf(0, 4);
        x.setPresent(3, false);
        x.open();
        Offices.nominate(x, 0, 1);
        Offices.cast(x, 0, "1>0");
        Offices.cast(x, 1, "0");
        return x;
    }

    private static TermOffice almostRecalled() {
        TermOffice x = Offices.ledBy(0, 6);
        x.setPresent(5, false);
        x.sign(1, true);
        return x;
    }

    private static void presenceAsItIs() {
        EDGES.sentence("Promise 4",
            "This is an act, also if the member is so already (nothing else happens then).");
        for (int m = 0; m < 4; m++) {
            int member = m;
            int is = m == 3 ? 0 : 1;
            TermOffice x = busy();
            String before = Answers.readings(x);
            EDGES.due("so already", x.setPresent(m, is == 1), is);
            EDGES.due("nothing else", Answers.readings(x).equals(before) ? 1 : 0, 1);
            EDGES.isAct("so already " + m, is, MembersEdgesTest::busy, o -> o.setPresent(member, is == 1));
            EDGES.isAct("otherwise " + m, is, MembersEdgesTest::busy, o -> o.setPresent(member, is == 0));
        }
        for (int m = 0; m < 6; m++) {
            int member = m;
            int is = m == 5 ? 0 : 1;
            TermOffice x = almostRecalled();
            String before = Answers.readings(x);
            EDGES.due("led, so already", x.setPresent(m, is == 1), is);
            EDGES.due("led, nothing else", Answers.readings(x).equals(before) ? 1 : 0, 1);
            EDGES.isAct("led, otherwise " + m, is, MembersEdgesTest::almostRecalled,
                o -> o.setPresent(member, is == 0));
        }
    }

    private static void presenceOfNobody() {
        EDGES.sentence("Promise 4", "`member`: a member");
        EDGES.due("the last one", Offices.withMembers(3).setPresent(2, false), 1);
        EDGES.sentence("Promise 4", "BAD if there is no such member.");
        int[] wrong = {-1, 4, 10, NONE, SMALLEST, GREATEST};
        for (int m : wrong) {
            EDGES.refused("setPresent(" + m + ", true)", BAD, MembersEdgesTest::busy,
                o -> o.setPresent(m, true));
            EDGES.refused("setPresent(" + m + ", false)", BAD, MembersEdgesTest::busy,
                o -> o.setPresent(m, false));
        }
        EDGES.refused("of none", BAD, TermOffice::new, o -> o.setPresent(0, false));
        EDGES.refused("of ten", BAD, () -> Offices.withMembers(10), o -> o.setPresent(10, false));
    }

    private static void passing() {
        EDGES.sentence("Promise 5", "Lets time pass, unit by unit.");
        int[] leaps = {10, 11, 1000};
        for (int leap : leaps) {
            TermOffice x = Offices.ledBy(0, 2);
            x.pass(leap);
            EDGES.due("over at its planned end", x.term(1, 3), 10);
            EDGES.due("told at that time", x.event(1, 0), 10);
            EDGES.due("the caretaker too", x.event(0, 0), 10);
            EDGES.due("time()", x.time(), leap);
        }
        TermOffice y = Offices.ledBy(0, 2);
        y.pass(9);
        EDGES.due("not over before it", y.term(1, 3), NONE);
        EDGES.sentence("Promise 5", "This is an act.");
        EDGES.isAct("pass(1)", 1, TermOffice::new, o -> o.pass(1));
        EDGES.isAct("pass(9), led", 9, () -> Offices.ledBy(0, 2), o -> o.pass(9));
        EDGES.isAct("pass(10), over", 10, () -> Offices.ledBy(0, 2), o -> o.pass(10));
        EDGES.sentence("Promise 5", "Returns the time then");
        EDGES.due("pass(1)", y.pass(1), 10);
        EDGES.due("pass(1) again", y.pass(1), 11);
    }

    private static void passingRefused() {
        EDGES.sentence("Promise 5", "`units`: 1 to 1000");
        EDGES.due("pass(1)", new TermOffice().pass(1), 1);
        EDGES.due("pass(1000)", new TermOffice().pass(1000), 1000);
        EDGES.sentence("Promise 5", "BAD if units is not in its range");
        int[] wrong = {0, -1, 1001, SMALLEST, GREATEST};
        for (int units : wrong) {
            EDGES.refused("pass(" + units + ")", BAD, () -> Offices.ledBy(0, 2), o -> o.pass(units));
        }
    }

    private static TermOffice late(int hundredsLeft) {
        TermOffice x = Offices.withMembers(2);
        for (int i = 0; i < 999; i++) {
            x.pass(1000);
        }
        for (int i = 10; i > hundredsLeft; i--) {
            x.pass(100);
        }
        return x;
    }

    /** More than 512 calls, where the answers are free: this class goes on as before. */
    private static void passingTooFar() {
        EDGES.sentence("Promise 5", "STATE if the time would be greater than 1000000.");
        EDGES.due("just to the end", late(1).pass(100), 1000000);
        EDGES.due("from far to the end", late(10).pass(1000), 1000000);
        EDGES.refused("one unit more", STATE, () -> late(1), o -> o.pass(101));
        EDGES.refused("at the end", STATE, () -> late(0), o -> o.pass(1));
        EDGES.refused("the most at the end", STATE, () -> late(0), o -> o.pass(1000));
        EDGES.refused("BAD before STATE", BAD, () -> late(0), o -> o.pass(1001));
        TermOffice x = late(1);
        x.set(4, 0);
        Offices.appoint(x, 0);
        EDGES.due("a term's planned end may be just the end", x.term(1, 2), 1000000);
        x.pass(100);
        EDGES.due("and is reached", x.term(1, 3), 1000000);
        TermOffice y = late(0);
        y.set(4, 0);
        Offices.appoint(y, 0);
        EDGES.due("a term's planned end may be beyond", y.term(1, 2), 1000100);
    }

    private static void timeIsTold() {
        EDGES.sentence("Promise 22", "Returns the time.");
        TermOffice x = new TermOffice();
        x.pass(1);
        x.pass(1000);
        EDGES.due("time()", x.time(), 1001);
        x.pass(1001);
        EDGES.due("after a refused pass", x.time(), 1001);
        x.undo();
        EDGES.due("after an undo", x.time(), 1);
        EDGES.leavesAll("time()", () -> Offices.ledBy(0, 2), o -> o.time());
    }
}
